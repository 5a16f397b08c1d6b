/-! the words that every method of this claim may use: all of the tables that stay true -/
def zT : List Cond := lw_tbl.filter goodWord
theorem zT_of {w : Cond} (h : w ∈ lw_tbl) (g : goodWord w = true) : w ∈ zT := List.mem_filter.mpr ⟨h, g⟩
theorem zT_t1 {w : Cond} (h : w ∈ tables_1_1) (g : goodWord w = true) : w ∈ zT := zT_of (List.mem_append_right _ (List.mem_append_left _ h)) g
theorem zT_t2 {w : Cond} (h : w ∈ tables_1_2) (g : goodWord w = true) : w ∈ zT := zT_of (List.mem_append_right _ (List.mem_append_right _ (List.mem_append_left _ h))) g
theorem zT_t3 {w : Cond} (h : w ∈ tables_1_3) (g : goodWord w = true) : w ∈ zT := zT_of (List.mem_append_right _ (List.mem_append_right _ (List.mem_append_right _ (List.mem_append_left _ h)))) g
theorem zT_t4 {w : Cond} (h : w ∈ tables_1_4) (g : goodWord w = true) : w ∈ zT := zT_of (List.mem_append_right _ (List.mem_append_right _ (List.mem_append_right _ (List.mem_append_right _ (List.mem_append_left _ h))))) g
theorem zT_t5 {w : Cond} (h : w ∈ tables_1_5) (g : goodWord w = true) : w ∈ zT := zT_of (List.mem_append_right _ (List.mem_append_right _ (List.mem_append_right _ (List.mem_append_right _ (List.mem_append_right _ (List.mem_append_left _ h)))))) g
theorem zT_t6 {w : Cond} (h : w ∈ tables_1_6) (g : goodWord w = true) : w ∈ zT := zT_of (List.mem_append_right _ (List.mem_append_right _ (List.mem_append_right _ (List.mem_append_right _ (List.mem_append_right _ (List.mem_append_right _ (List.mem_append_left _ h))))))) g
theorem zT_t7 {w : Cond} (h : w ∈ tables_1_7) (g : goodWord w = true) : w ∈ zT := zT_of (List.mem_append_right _ (List.mem_append_right _ (List.mem_append_right _ (List.mem_append_right _ (List.mem_append_right _ (List.mem_append_right _ (List.mem_append_right _ (h)))))))) g
theorem zT_s {w : Cond} (h : w ∈ k2_sels lw_privs) (g : goodWord w = true) : w ∈ zT := zT_of (List.mem_append_left _ h) g
theorem wt_1_0 : (Cond.initialized RL) ∈ zT := zT_t1 (List.mem_of_getElem? (i := 0) (by decide +kernel)) rfl
theorem wt_1_1 : (Cond.initialized RX11) ∈ zT := zT_t1 (List.mem_of_getElem? (i := 1) (by decide +kernel)) rfl
theorem wt_1_2 : (Cond.initialized RX9) ∈ zT := zT_t1 (List.mem_of_getElem? (i := 2) (by decide +kernel)) rfl
theorem wt_1_3 : (Cond.initialized RX0) ∈ zT := zT_t1 (List.mem_of_getElem? (i := 3) (by decide +kernel)) rfl
theorem wt_1_4 : (Cond.initialized RX2) ∈ zT := zT_t1 (List.mem_of_getElem? (i := 4) (by decide +kernel)) rfl
theorem wt_1_5 : (Cond.initialized RX10) ∈ zT := zT_t1 (List.mem_of_getElem? (i := 5) (by decide +kernel)) rfl
theorem wt_1_6 : (Cond.initialized RX6) ∈ zT := zT_t1 (List.mem_of_getElem? (i := 6) (by decide +kernel)) rfl
theorem wt_1_7 : (Cond.initialized RX3) ∈ zT := zT_t1 (List.mem_of_getElem? (i := 7) (by decide +kernel)) rfl
theorem wt_1_8 : (Cond.initialized RX5) ∈ zT := zT_t1 (List.mem_of_getElem? (i := 8) (by decide +kernel)) rfl
theorem wt_1_9 : (Cond.initialized RX1) ∈ zT := zT_t1 (List.mem_of_getElem? (i := 9) (by decide +kernel)) rfl
theorem wt_1_10 : (Cond.initialized RX7) ∈ zT := zT_t1 (List.mem_of_getElem? (i := 10) (by decide +kernel)) rfl
theorem wt_1_11 : (Cond.initialized RX4) ∈ zT := zT_t1 (List.mem_of_getElem? (i := 11) (by decide +kernel)) rfl
theorem wt_1_12 : (Cond.initialized RX8) ∈ zT := zT_t1 (List.mem_of_getElem? (i := 12) (by decide +kernel)) rfl
theorem wt_1_13 : (Cond.initialized RX12) ∈ zT := zT_t1 (List.mem_of_getElem? (i := 13) (by decide +kernel)) rfl
theorem wt_1_14 : (Cond.initialized RJ0) ∈ zT := zT_t1 (List.mem_of_getElem? (i := 14) (by decide +kernel)) rfl
theorem wt_1_15 : (Cond.initialized RJ1) ∈ zT := zT_t1 (List.mem_of_getElem? (i := 15) (by decide +kernel)) rfl
theorem wt_1_16 : (Cond.initialized RJ3) ∈ zT := zT_t1 (List.mem_of_getElem? (i := 16) (by decide +kernel)) rfl
theorem wt_1_17 : (Cond.initialized RJ2) ∈ zT := zT_t1 (List.mem_of_getElem? (i := 17) (by decide +kernel)) rfl
theorem wt_1_18 : (Cond.initialized RJ9) ∈ zT := zT_t1 (List.mem_of_getElem? (i := 18) (by decide +kernel)) rfl
theorem wt_1_19 : (Cond.initialized RJ11) ∈ zT := zT_t1 (List.mem_of_getElem? (i := 19) (by decide +kernel)) rfl
theorem wt_1_20 : (Cond.initialized RJ10) ∈ zT := zT_t1 (List.mem_of_getElem? (i := 20) (by decide +kernel)) rfl
theorem wt_1_21 : (Cond.initialized RJ6) ∈ zT := zT_t1 (List.mem_of_getElem? (i := 21) (by decide +kernel)) rfl
theorem wt_1_22 : (Cond.initialized RJ13) ∈ zT := zT_t1 (List.mem_of_getElem? (i := 22) (by decide +kernel)) rfl
theorem wt_1_23 : (Cond.classLink RL 7 RX11) ∈ zT := zT_t1 (List.mem_of_getElem? (i := 23) (by decide +kernel)) rfl
theorem wt_1_24 : (Cond.instantiable RX11 8) ∈ zT := zT_t1 (List.mem_of_getElem? (i := 24) (by decide +kernel)) rfl
theorem wt_1_25 : (Cond.methodLink RL 9 yX11_init) ∈ zT := zT_t1 (List.mem_of_getElem? (i := 25) (by decide +kernel)) rfl
theorem wt_1_26 : (Cond.instanceMethod yX11_init) ∈ zT := zT_t1 (List.mem_of_getElem? (i := 26) (by decide +kernel)) rfl
theorem wt_1_27 : (Cond.code yX11_init cX11_init 1 none) ∈ zT := zT_t1 (List.mem_of_getElem? (i := 27) (by decide +kernel)) rfl
theorem wt_1_28 : (Cond.methodLink RX11 3 objectInit) ∈ zT := zT_t1 (List.mem_of_getElem? (i := 28) (by decide +kernel)) rfl
theorem wt_1_29 : (Cond.instanceMethod objectInit) ∈ zT := zT_t1 (List.mem_of_getElem? (i := 29) (by decide +kernel)) rfl
theorem wt_1_30 : (Cond.code objectInit object_method_1_code 1 none) ∈ zT := zT_t1 (List.mem_of_getElem? (i := 30) (by decide +kernel)) rfl
theorem wt_1_31 : (Cond.classLink RX11 9 RX9) ∈ zT := zT_t1 (List.mem_of_getElem? (i := 31) (by decide +kernel)) rfl
theorem wt_1_32 : (Cond.instantiable RX9 2) ∈ zT := zT_t1 (List.mem_of_getElem? (i := 32) (by decide +kernel)) rfl
theorem wl_1_33 : (Cond.methodLinkNest RX11 11 yX9_init "DoughDebts") ∈ lw_tbl := List.mem_append_right _ ((fun h => List.mem_append_left _ h) (List.mem_of_getElem? (i := 33) (by decide +kernel) : (Cond.methodLinkNest RX11 11 yX9_init "DoughDebts") ∈ tables_1_1))
theorem wt_1_34 : (Cond.instanceMethod yX9_init) ∈ zT := zT_t1 (List.mem_of_getElem? (i := 34) (by decide +kernel)) rfl
theorem wt_1_35 : (Cond.code yX9_init cX9_init 1 none) ∈ zT := zT_t1 (List.mem_of_getElem? (i := 35) (by decide +kernel)) rfl
theorem wt_1_36 : (Cond.methodLink RX9 3 objectInit) ∈ zT := zT_t1 (List.mem_of_getElem? (i := 36) (by decide +kernel)) rfl
theorem wt_1_37 : (Cond.fieldLink RX9 9 "DoughDebts$Tape" "bytes" "[I") ∈ zT := zT_t1 (List.mem_of_getElem? (i := 37) (by decide +kernel)) rfl
theorem wt_1_38 : (Cond.fieldLink RX4 86 "DoughDebts$Tape" "bytes" "[I") ∈ zT := zT_t1 (List.mem_of_getElem? (i := 38) (by decide +kernel)) rfl
theorem wt_1_39 : (Cond.fieldLink RX7 92 "DoughDebts$Tape" "bytes" "[I") ∈ zT := zT_t1 (List.mem_of_getElem? (i := 39) (by decide +kernel)) rfl
theorem wt_1_40 : (Cond.fieldLink RX5 20 "DoughDebts$Tape" "length" "I") ∈ zT := zT_t1 (List.mem_of_getElem? (i := 40) (by decide +kernel)) rfl
theorem wt_1_41 : (Cond.fieldLink RX9 15 "DoughDebts$Tape" "length" "I") ∈ zT := zT_t1 (List.mem_of_getElem? (i := 41) (by decide +kernel)) rfl
theorem wt_1_42 : (Cond.fieldLink RX7 29 "DoughDebts$Tape" "length" "I") ∈ zT := zT_t1 (List.mem_of_getElem? (i := 42) (by decide +kernel)) rfl
theorem wt_1_43 : (Cond.fieldLink RX4 68 "DoughDebts$Tape" "length" "I") ∈ zT := zT_t1 (List.mem_of_getElem? (i := 43) (by decide +kernel)) rfl
theorem wt_1_44 : (Cond.fieldLink RX11 68 "DoughDebts$Tape" "length" "I") ∈ zT := zT_t1 (List.mem_of_getElem? (i := 44) (by decide +kernel)) rfl
theorem wt_1_45 : (Cond.fieldLink RX2 34 "DoughDebts$Tape" "length" "I") ∈ zT := zT_t1 (List.mem_of_getElem? (i := 45) (by decide +kernel)) rfl
theorem wt_1_51 : (Cond.arrayClass .int) ∈ zT := zT_t1 (List.mem_of_getElem? (i := 51) (by decide +kernel)) rfl
theorem wt_1_52 : (Cond.classLink RX11 16 RX0) ∈ zT := zT_t1 (List.mem_of_getElem? (i := 52) (by decide +kernel)) rfl
theorem wt_1_53 : (Cond.instantiable RX0 6) ∈ zT := zT_t1 (List.mem_of_getElem? (i := 53) (by decide +kernel)) rfl
theorem wl_1_54 : (Cond.methodLinkNest RX11 18 yX0_init "DoughDebts") ∈ lw_tbl := List.mem_append_right _ ((fun h => List.mem_append_left _ h) (List.mem_of_getElem? (i := 54) (by decide +kernel) : (Cond.methodLinkNest RX11 18 yX0_init "DoughDebts") ∈ tables_1_1))
theorem wt_1_55 : (Cond.instanceMethod yX0_init) ∈ zT := zT_t1 (List.mem_of_getElem? (i := 55) (by decide +kernel)) rfl
theorem wt_1_56 : (Cond.code yX0_init cX0_init 1 none) ∈ zT := zT_t1 (List.mem_of_getElem? (i := 56) (by decide +kernel)) rfl
theorem wt_1_57 : (Cond.methodLink RX0 3 objectInit) ∈ zT := zT_t1 (List.mem_of_getElem? (i := 57) (by decide +kernel)) rfl
theorem wt_1_58 : (Cond.classLink RX0 9 RX2) ∈ zT := zT_t1 (List.mem_of_getElem? (i := 58) (by decide +kernel)) rfl
theorem wt_1_59 : (Cond.instantiable RX2 7) ∈ zT := zT_t1 (List.mem_of_getElem? (i := 59) (by decide +kernel)) rfl
theorem wl_1_60 : (Cond.methodLinkNest RX0 11 yX2_init "DoughDebts") ∈ lw_tbl := List.mem_append_right _ ((fun h => List.mem_append_left _ h) (List.mem_of_getElem? (i := 60) (by decide +kernel) : (Cond.methodLinkNest RX0 11 yX2_init "DoughDebts") ∈ tables_1_1))
theorem wt_1_61 : (Cond.instanceMethod yX2_init) ∈ zT := zT_t1 (List.mem_of_getElem? (i := 61) (by decide +kernel)) rfl
theorem wt_1_62 : (Cond.code yX2_init cX2_init 1 none) ∈ zT := zT_t1 (List.mem_of_getElem? (i := 62) (by decide +kernel)) rfl
theorem wt_1_63 : (Cond.methodLink RX2 3 objectInit) ∈ zT := zT_t1 (List.mem_of_getElem? (i := 63) (by decide +kernel)) rfl
theorem wt_1_64 : (Cond.fieldLink RX2 30 "DoughDebts$Houses" "count" "I") ∈ zT := zT_t1 (List.mem_of_getElem? (i := 64) (by decide +kernel)) rfl
theorem wt_1_65 : (Cond.fieldLink RX8 21 "DoughDebts$Houses" "count" "I") ∈ zT := zT_t1 (List.mem_of_getElem? (i := 65) (by decide +kernel)) rfl
theorem wt_1_66 : (Cond.fieldLink RX4 78 "DoughDebts$Houses" "count" "I") ∈ zT := zT_t1 (List.mem_of_getElem? (i := 66) (by decide +kernel)) rfl
theorem wt_1_67 : (Cond.fieldLink RX5 37 "DoughDebts$Houses" "count" "I") ∈ zT := zT_t1 (List.mem_of_getElem? (i := 67) (by decide +kernel)) rfl
theorem wt_1_68 : (Cond.fieldLink RX11 319 "DoughDebts$Houses" "count" "I") ∈ zT := zT_t1 (List.mem_of_getElem? (i := 68) (by decide +kernel)) rfl
theorem wt_1_69 : (Cond.fieldLink RX2 9 "DoughDebts$Houses" "size" "[I") ∈ zT := zT_t1 (List.mem_of_getElem? (i := 69) (by decide +kernel)) rfl
theorem wt_1_70 : (Cond.fieldLink RX4 105 "DoughDebts$Houses" "size" "[I") ∈ zT := zT_t1 (List.mem_of_getElem? (i := 70) (by decide +kernel)) rfl
theorem wt_1_71 : (Cond.fieldLink RX11 158 "DoughDebts$Houses" "size" "[I") ∈ zT := zT_t1 (List.mem_of_getElem? (i := 71) (by decide +kernel)) rfl
theorem wt_1_72 : (Cond.fieldLink RX2 15 "DoughDebts$Houses" "need" "[I") ∈ zT := zT_t1 (List.mem_of_getElem? (i := 72) (by decide +kernel)) rfl
theorem wt_1_73 : (Cond.fieldLink RX4 108 "DoughDebts$Houses" "need" "[I") ∈ zT := zT_t1 (List.mem_of_getElem? (i := 73) (by decide +kernel)) rfl
theorem wt_1_74 : (Cond.fieldLink RX11 161 "DoughDebts$Houses" "need" "[I") ∈ zT := zT_t1 (List.mem_of_getElem? (i := 74) (by decide +kernel)) rfl
theorem wt_1_75 : (Cond.fieldLink RX2 18 "DoughDebts$Houses" "minutes" "[I") ∈ zT := zT_t1 (List.mem_of_getElem? (i := 75) (by decide +kernel)) rfl
theorem wt_1_76 : (Cond.fieldLink RX11 164 "DoughDebts$Houses" "minutes" "[I") ∈ zT := zT_t1 (List.mem_of_getElem? (i := 76) (by decide +kernel)) rfl
theorem wt_1_77 : (Cond.fieldLink RX4 185 "DoughDebts$Houses" "minutes" "[I") ∈ zT := zT_t1 (List.mem_of_getElem? (i := 77) (by decide +kernel)) rfl
theorem wt_1_78 : (Cond.fieldLink RX2 21 "DoughDebts$Houses" "letters" "[I") ∈ zT := zT_t1 (List.mem_of_getElem? (i := 78) (by decide +kernel)) rfl
theorem wt_1_79 : (Cond.fieldLink RX2 24 "DoughDebts$Houses" "markLength" "[I") ∈ zT := zT_t1 (List.mem_of_getElem? (i := 79) (by decide +kernel)) rfl
theorem wt_1_80 : (Cond.fieldLink RX5 15 "DoughDebts$Houses" "markLength" "[I") ∈ zT := zT_t1 (List.mem_of_getElem? (i := 80) (by decide +kernel)) rfl
theorem wt_1_81 : (Cond.fieldLink RX11 185 "DoughDebts$Houses" "markLength" "[I") ∈ zT := zT_t1 (List.mem_of_getElem? (i := 81) (by decide +kernel)) rfl
theorem wt_1_82 : (Cond.fieldLink RX2 27 "DoughDebts$Houses" "net" "[I") ∈ zT := zT_t1 (List.mem_of_getElem? (i := 82) (by decide +kernel)) rfl
theorem wt_1_83 : (Cond.fieldLink RX8 27 "DoughDebts$Houses" "net" "[I") ∈ zT := zT_t1 (List.mem_of_getElem? (i := 83) (by decide +kernel)) rfl
theorem wt_1_84 : (Cond.fieldLink RX4 129 "DoughDebts$Houses" "net" "[I") ∈ zT := zT_t1 (List.mem_of_getElem? (i := 84) (by decide +kernel)) rfl
theorem wt_1_85 : (Cond.fieldLink RX11 182 "DoughDebts$Houses" "net" "[I") ∈ zT := zT_t1 (List.mem_of_getElem? (i := 85) (by decide +kernel)) rfl
theorem wt_1_101 : (Cond.classLink RX0 18 RX10) ∈ zT := zT_t1 (List.mem_of_getElem? (i := 101) (by decide +kernel)) rfl
theorem wt_1_102 : (Cond.instantiable RX10 12) ∈ zT := zT_t1 (List.mem_of_getElem? (i := 102) (by decide +kernel)) rfl
theorem wl_1_103 : (Cond.methodLinkNest RX0 20 yX10_init "DoughDebts") ∈ lw_tbl := List.mem_append_right _ ((fun h => List.mem_append_left _ h) (List.mem_of_getElem? (i := 103) (by decide +kernel) : (Cond.methodLinkNest RX0 20 yX10_init "DoughDebts") ∈ tables_1_1))
theorem wt_1_104 : (Cond.instanceMethod yX10_init) ∈ zT := zT_t1 (List.mem_of_getElem? (i := 104) (by decide +kernel)) rfl
theorem wt_1_105 : (Cond.code yX10_init cX10_init 1 none) ∈ zT := zT_t1 (List.mem_of_getElem? (i := 105) (by decide +kernel)) rfl
theorem wt_1_106 : (Cond.methodLink RX10 3 objectInit) ∈ zT := zT_t1 (List.mem_of_getElem? (i := 106) (by decide +kernel)) rfl
theorem wt_1_107 : (Cond.fieldLink RX10 38 "DoughDebts$Times" "state" "I") ∈ zT := zT_t1 (List.mem_of_getElem? (i := 107) (by decide +kernel)) rfl
theorem wt_1_108 : (Cond.fieldLink RX11 62 "DoughDebts$Times" "state" "I") ∈ zT := zT_t1 (List.mem_of_getElem? (i := 108) (by decide +kernel)) rfl
theorem wt_1_109 : (Cond.fieldLink RX10 42 "DoughDebts$Times" "day" "I") ∈ zT := zT_t1 (List.mem_of_getElem? (i := 109) (by decide +kernel)) rfl
theorem wt_1_110 : (Cond.fieldLink RX4 126 "DoughDebts$Times" "day" "I") ∈ zT := zT_t1 (List.mem_of_getElem? (i := 110) (by decide +kernel)) rfl
theorem wt_1_111 : (Cond.fieldLink RX11 147 "DoughDebts$Times" "day" "I") ∈ zT := zT_t1 (List.mem_of_getElem? (i := 111) (by decide +kernel)) rfl
theorem wt_1_112 : (Cond.fieldLink RX10 45 "DoughDebts$Times" "lost" "I") ∈ zT := zT_t1 (List.mem_of_getElem? (i := 112) (by decide +kernel)) rfl
theorem wt_1_113 : (Cond.fieldLink RX4 177 "DoughDebts$Times" "lost" "I") ∈ zT := zT_t1 (List.mem_of_getElem? (i := 113) (by decide +kernel)) rfl
theorem wt_1_114 : (Cond.fieldLink RX11 324 "DoughDebts$Times" "lost" "I") ∈ zT := zT_t1 (List.mem_of_getElem? (i := 114) (by decide +kernel)) rfl
theorem wt_1_115 : (Cond.fieldLink RX10 9 "DoughDebts$Times" "dough" "[I") ∈ zT := zT_t1 (List.mem_of_getElem? (i := 115) (by decide +kernel)) rfl
theorem wt_1_116 : (Cond.fieldLink RX4 111 "DoughDebts$Times" "dough" "[I") ∈ zT := zT_t1 (List.mem_of_getElem? (i := 116) (by decide +kernel)) rfl
theorem wt_1_117 : (Cond.fieldLink RX11 100 "DoughDebts$Times" "dough" "[I") ∈ zT := zT_t1 (List.mem_of_getElem? (i := 117) (by decide +kernel)) rfl
theorem wt_1_118 : (Cond.fieldLink RX10 15 "DoughDebts$Times" "bread" "[I") ∈ zT := zT_t1 (List.mem_of_getElem? (i := 118) (by decide +kernel)) rfl
theorem wt_1_119 : (Cond.fieldLink RX4 114 "DoughDebts$Times" "bread" "[I") ∈ zT := zT_t1 (List.mem_of_getElem? (i := 119) (by decide +kernel)) rfl
theorem wt_1_120 : (Cond.fieldLink RX11 167 "DoughDebts$Times" "bread" "[I") ∈ zT := zT_t1 (List.mem_of_getElem? (i := 120) (by decide +kernel)) rfl
theorem wt_1_121 : (Cond.fieldLink RX10 18 "DoughDebts$Times" "wood" "[I") ∈ zT := zT_t1 (List.mem_of_getElem? (i := 121) (by decide +kernel)) rfl
theorem wt_1_122 : (Cond.fieldLink RX4 117 "DoughDebts$Times" "wood" "[I") ∈ zT := zT_t1 (List.mem_of_getElem? (i := 122) (by decide +kernel)) rfl
theorem wt_1_123 : (Cond.fieldLink RX11 170 "DoughDebts$Times" "wood" "[I") ∈ zT := zT_t1 (List.mem_of_getElem? (i := 123) (by decide +kernel)) rfl
theorem wt_1_124 : (Cond.fieldLink RX10 21 "DoughDebts$Times" "first" "[I") ∈ zT := zT_t1 (List.mem_of_getElem? (i := 124) (by decide +kernel)) rfl
theorem wt_1_125 : (Cond.fieldLink RX4 120 "DoughDebts$Times" "first" "[I") ∈ zT := zT_t1 (List.mem_of_getElem? (i := 125) (by decide +kernel)) rfl
theorem wt_1_126 : (Cond.fieldLink RX11 173 "DoughDebts$Times" "first" "[I") ∈ zT := zT_t1 (List.mem_of_getElem? (i := 126) (by decide +kernel)) rfl
theorem wt_1_127 : (Cond.fieldLink RX10 24 "DoughDebts$Times" "mondays" "[I") ∈ zT := zT_t1 (List.mem_of_getElem? (i := 127) (by decide +kernel)) rfl
theorem wt_1_128 : (Cond.fieldLink RX4 132 "DoughDebts$Times" "mondays" "[I") ∈ zT := zT_t1 (List.mem_of_getElem? (i := 128) (by decide +kernel)) rfl
theorem wt_1_129 : (Cond.fieldLink RX11 176 "DoughDebts$Times" "mondays" "[I") ∈ zT := zT_t1 (List.mem_of_getElem? (i := 129) (by decide +kernel)) rfl
theorem wt_1_130 : (Cond.fieldLink RX10 27 "DoughDebts$Times" "sour" "[I") ∈ zT := zT_t1 (List.mem_of_getElem? (i := 130) (by decide +kernel)) rfl
theorem wt_1_131 : (Cond.fieldLink RX4 123 "DoughDebts$Times" "sour" "[I") ∈ zT := zT_t1 (List.mem_of_getElem? (i := 131) (by decide +kernel)) rfl
theorem wt_1_132 : (Cond.fieldLink RX11 179 "DoughDebts$Times" "sour" "[I") ∈ zT := zT_t1 (List.mem_of_getElem? (i := 132) (by decide +kernel)) rfl
theorem wt_1_133 : (Cond.fieldLink RX10 30 "DoughDebts$Times" "stood" "[I") ∈ zT := zT_t1 (List.mem_of_getElem? (i := 133) (by decide +kernel)) rfl
theorem wt_1_134 : (Cond.fieldLink RX4 148 "DoughDebts$Times" "stood" "[I") ∈ zT := zT_t1 (List.mem_of_getElem? (i := 134) (by decide +kernel)) rfl
theorem wt_1_135 : (Cond.fieldLink RX11 198 "DoughDebts$Times" "stood" "[I") ∈ zT := zT_t1 (List.mem_of_getElem? (i := 135) (by decide +kernel)) rfl
theorem wt_1_136 : (Cond.fieldLink RX10 54 "DoughDebts$Times" "places" "I") ∈ zT := zT_t1 (List.mem_of_getElem? (i := 136) (by decide +kernel)) rfl
theorem wt_1_137 : (Cond.fieldLink RX4 157 "DoughDebts$Times" "places" "I") ∈ zT := zT_t1 (List.mem_of_getElem? (i := 137) (by decide +kernel)) rfl
theorem wt_1_138 : (Cond.fieldLink RX11 195 "DoughDebts$Times" "places" "I") ∈ zT := zT_t1 (List.mem_of_getElem? (i := 138) (by decide +kernel)) rfl
theorem wt_1_139 : (Cond.fieldLink RX10 33 "DoughDebts$Times" "burnt" "I") ∈ zT := zT_t1 (List.mem_of_getElem? (i := 139) (by decide +kernel)) rfl
theorem wt_1_140 : (Cond.fieldLink RX4 160 "DoughDebts$Times" "burnt" "I") ∈ zT := zT_t1 (List.mem_of_getElem? (i := 140) (by decide +kernel)) rfl
theorem wt_1_141 : (Cond.fieldLink RX11 192 "DoughDebts$Times" "burnt" "I") ∈ zT := zT_t1 (List.mem_of_getElem? (i := 141) (by decide +kernel)) rfl
theorem wt_1_167 : (Cond.classLink RX0 29 RX6) ∈ zT := zT_t1 (List.mem_of_getElem? (i := 167) (by decide +kernel)) rfl
theorem wt_1_168 : (Cond.instantiable RX6 3) ∈ zT := zT_t1 (List.mem_of_getElem? (i := 168) (by decide +kernel)) rfl
theorem wl_1_169 : (Cond.methodLinkNest RX0 31 yX6_init "DoughDebts") ∈ lw_tbl := List.mem_append_right _ ((fun h => List.mem_append_left _ h) (List.mem_of_getElem? (i := 169) (by decide +kernel) : (Cond.methodLinkNest RX0 31 yX6_init "DoughDebts") ∈ tables_1_1))
theorem wt_1_170 : (Cond.instanceMethod yX6_init) ∈ zT := zT_t1 (List.mem_of_getElem? (i := 170) (by decide +kernel)) rfl
theorem wt_1_171 : (Cond.code yX6_init cX6_init 1 none) ∈ zT := zT_t1 (List.mem_of_getElem? (i := 171) (by decide +kernel)) rfl
theorem wt_1_172 : (Cond.methodLink RX6 3 objectInit) ∈ zT := zT_t1 (List.mem_of_getElem? (i := 172) (by decide +kernel)) rfl
theorem wt_1_173 : (Cond.fieldLink RX6 9 "DoughDebts$Rule" "code" "[I") ∈ zT := zT_t1 (List.mem_of_getElem? (i := 173) (by decide +kernel)) rfl
theorem wt_1_174 : (Cond.fieldLink RX0 63 "DoughDebts$Rule" "code" "[I") ∈ zT := zT_t1 (List.mem_of_getElem? (i := 174) (by decide +kernel)) rfl
theorem wt_1_175 : (Cond.fieldLink RX6 21 "DoughDebts$Rule" "length" "I") ∈ zT := zT_t1 (List.mem_of_getElem? (i := 175) (by decide +kernel)) rfl
theorem wt_1_176 : (Cond.fieldLink RX0 66 "DoughDebts$Rule" "length" "I") ∈ zT := zT_t1 (List.mem_of_getElem? (i := 176) (by decide +kernel)) rfl
theorem wt_1_177 : (Cond.fieldLink RX6 25 "DoughDebts$Rule" "lines" "I") ∈ zT := zT_t1 (List.mem_of_getElem? (i := 177) (by decide +kernel)) rfl
theorem wt_1_178 : (Cond.fieldLink RX0 70 "DoughDebts$Rule" "lines" "I") ∈ zT := zT_t1 (List.mem_of_getElem? (i := 178) (by decide +kernel)) rfl
theorem wt_1_179 : (Cond.fieldLink RX11 134 "DoughDebts$Rule" "lines" "I") ∈ zT := zT_t1 (List.mem_of_getElem? (i := 179) (by decide +kernel)) rfl
theorem wt_1_187 : (Cond.classLink RX0 36 RX3) ∈ zT := zT_t1 (List.mem_of_getElem? (i := 187) (by decide +kernel)) rfl
theorem wt_1_188 : (Cond.instantiable RX3 7) ∈ zT := zT_t1 (List.mem_of_getElem? (i := 188) (by decide +kernel)) rfl
theorem wl_1_189 : (Cond.methodLinkNest RX0 38 yX3_init "DoughDebts") ∈ lw_tbl := List.mem_append_right _ ((fun h => List.mem_append_left _ h) (List.mem_of_getElem? (i := 189) (by decide +kernel) : (Cond.methodLinkNest RX0 38 yX3_init "DoughDebts") ∈ tables_1_1))
theorem wt_1_190 : (Cond.instanceMethod yX3_init) ∈ zT := zT_t1 (List.mem_of_getElem? (i := 190) (by decide +kernel)) rfl
theorem wt_1_191 : (Cond.code yX3_init cX3_init 1 none) ∈ zT := zT_t1 (List.mem_of_getElem? (i := 191) (by decide +kernel)) rfl
theorem wt_1_192 : (Cond.methodLink RX3 3 objectInit) ∈ zT := zT_t1 (List.mem_of_getElem? (i := 192) (by decide +kernel)) rfl
theorem wt_1_193 : (Cond.fieldLink RX3 31 "DoughDebts$Leavens" "count" "I") ∈ zT := zT_t1 (List.mem_of_getElem? (i := 193) (by decide +kernel)) rfl
theorem wt_1_194 : (Cond.fieldLink RX11 322 "DoughDebts$Leavens" "count" "I") ∈ zT := zT_t1 (List.mem_of_getElem? (i := 194) (by decide +kernel)) rfl
theorem wt_1_195 : (Cond.fieldLink RX3 9 "DoughDebts$Leavens" "age" "[I") ∈ zT := zT_t1 (List.mem_of_getElem? (i := 195) (by decide +kernel)) rfl
theorem wt_1_196 : (Cond.fieldLink RX11 262 "DoughDebts$Leavens" "age" "[I") ∈ zT := zT_t1 (List.mem_of_getElem? (i := 196) (by decide +kernel)) rfl
theorem wt_1_197 : (Cond.fieldLink RX3 15 "DoughDebts$Leavens" "owner" "[I") ∈ zT := zT_t1 (List.mem_of_getElem? (i := 197) (by decide +kernel)) rfl
theorem wt_1_198 : (Cond.fieldLink RX11 265 "DoughDebts$Leavens" "owner" "[I") ∈ zT := zT_t1 (List.mem_of_getElem? (i := 198) (by decide +kernel)) rfl
theorem wt_1_199 : (Cond.fieldLink RX3 18 "DoughDebts$Leavens" "one" "[I") ∈ zT := zT_t1 (List.mem_of_getElem? (i := 199) (by decide +kernel)) rfl
theorem wt_1_200 : (Cond.fieldLink RX11 268 "DoughDebts$Leavens" "one" "[I") ∈ zT := zT_t1 (List.mem_of_getElem? (i := 200) (by decide +kernel)) rfl
theorem wt_1_201 : (Cond.fieldLink RX3 21 "DoughDebts$Leavens" "other" "[I") ∈ zT := zT_t1 (List.mem_of_getElem? (i := 201) (by decide +kernel)) rfl
theorem wt_1_202 : (Cond.fieldLink RX11 271 "DoughDebts$Leavens" "other" "[I") ∈ zT := zT_t1 (List.mem_of_getElem? (i := 202) (by decide +kernel)) rfl
theorem wt_1_203 : (Cond.fieldLink RX3 24 "DoughDebts$Leavens" "ledFrom" "[J") ∈ zT := zT_t1 (List.mem_of_getElem? (i := 203) (by decide +kernel)) rfl
theorem wt_1_204 : (Cond.fieldLink RX3 28 "DoughDebts$Leavens" "share" "[J") ∈ zT := zT_t1 (List.mem_of_getElem? (i := 204) (by decide +kernel)) rfl
theorem wt_1_220 : (Cond.arrayClass .long) ∈ zT := zT_t1 (List.mem_of_getElem? (i := 220) (by decide +kernel)) rfl
theorem wt_1_221 : (Cond.classLink RX0 43 RX5) ∈ zT := zT_t1 (List.mem_of_getElem? (i := 221) (by decide +kernel)) rfl
theorem wt_1_222 : (Cond.instantiable RX5 1) ∈ zT := zT_t1 (List.mem_of_getElem? (i := 222) (by decide +kernel)) rfl
theorem wt_1_223 : (Cond.methodLink RX0 45 yX5_init) ∈ zT := zT_t1 (List.mem_of_getElem? (i := 223) (by decide +kernel)) rfl
theorem wt_1_224 : (Cond.instanceMethod yX5_init) ∈ zT := zT_t1 (List.mem_of_getElem? (i := 224) (by decide +kernel)) rfl
theorem wt_1_225 : (Cond.code yX5_init cX5_init 2 none) ∈ zT := zT_t1 (List.mem_of_getElem? (i := 225) (by decide +kernel)) rfl
theorem wt_1_226 : (Cond.methodLink RX5 3 objectInit) ∈ zT := zT_t1 (List.mem_of_getElem? (i := 226) (by decide +kernel)) rfl
theorem wt_1_227 : (Cond.fieldLink RX5 9 "DoughDebts$Rises" "rise" "[I") ∈ zT := zT_t1 (List.mem_of_getElem? (i := 227) (by decide +kernel)) rfl
theorem wt_1_228 : (Cond.fieldLink RX0 80 "DoughDebts$Rises" "rise" "[I") ∈ zT := zT_t1 (List.mem_of_getElem? (i := 228) (by decide +kernel)) rfl
theorem wt_1_229 : (Cond.fieldLink RX11 284 "DoughDebts$Rises" "rise" "[I") ∈ zT := zT_t1 (List.mem_of_getElem? (i := 229) (by decide +kernel)) rfl
theorem wt_1_233 : (Cond.fieldLink RX0 12 "DoughDebts$Commons" "houses" "LDoughDebts$Houses;") ∈ zT := zT_t1 (List.mem_of_getElem? (i := 233) (by decide +kernel)) rfl
theorem wt_1_234 : (Cond.fieldLink RX4 74 "DoughDebts$Commons" "houses" "LDoughDebts$Houses;") ∈ zT := zT_t1 (List.mem_of_getElem? (i := 234) (by decide +kernel)) rfl
theorem wt_1_235 : (Cond.fieldLink RX11 83 "DoughDebts$Commons" "houses" "LDoughDebts$Houses;") ∈ zT := zT_t1 (List.mem_of_getElem? (i := 235) (by decide +kernel)) rfl
theorem wt_1_236 : (Cond.fieldLink RX0 21 "DoughDebts$Commons" "times" "LDoughDebts$Times;") ∈ zT := zT_t1 (List.mem_of_getElem? (i := 236) (by decide +kernel)) rfl
theorem wt_1_237 : (Cond.fieldLink RX11 58 "DoughDebts$Commons" "times" "LDoughDebts$Times;") ∈ zT := zT_t1 (List.mem_of_getElem? (i := 237) (by decide +kernel)) rfl
theorem wt_1_238 : (Cond.fieldLink RX4 48 "DoughDebts$Commons" "times" "LDoughDebts$Times;") ∈ zT := zT_t1 (List.mem_of_getElem? (i := 238) (by decide +kernel)) rfl
theorem wt_1_239 : (Cond.fieldLink RX0 25 "DoughDebts$Commons" "settings" "[I") ∈ zT := zT_t1 (List.mem_of_getElem? (i := 239) (by decide +kernel)) rfl
theorem wt_2_0 : (Cond.fieldLink RX11 109 "DoughDebts$Commons" "settings" "[I") ∈ zT := zT_t2 (List.mem_of_getElem? (i := 0) (by decide +kernel)) rfl
theorem wt_2_1 : (Cond.fieldLink RX4 163 "DoughDebts$Commons" "settings" "[I") ∈ zT := zT_t2 (List.mem_of_getElem? (i := 1) (by decide +kernel)) rfl
theorem wt_2_2 : (Cond.fieldLink RX0 32 "DoughDebts$Commons" "rule" "LDoughDebts$Rule;") ∈ zT := zT_t2 (List.mem_of_getElem? (i := 2) (by decide +kernel)) rfl
theorem wt_2_3 : (Cond.fieldLink RX4 96 "DoughDebts$Commons" "rule" "LDoughDebts$Rule;") ∈ zT := zT_t2 (List.mem_of_getElem? (i := 3) (by decide +kernel)) rfl
theorem wt_2_4 : (Cond.fieldLink RX11 115 "DoughDebts$Commons" "rule" "LDoughDebts$Rule;") ∈ zT := zT_t2 (List.mem_of_getElem? (i := 4) (by decide +kernel)) rfl
theorem wt_2_5 : (Cond.fieldLink RX0 39 "DoughDebts$Commons" "leavens" "LDoughDebts$Leavens;") ∈ zT := zT_t2 (List.mem_of_getElem? (i := 5) (by decide +kernel)) rfl
theorem wt_2_6 : (Cond.fieldLink RX11 236 "DoughDebts$Commons" "leavens" "LDoughDebts$Leavens;") ∈ zT := zT_t2 (List.mem_of_getElem? (i := 6) (by decide +kernel)) rfl
theorem wt_2_7 : (Cond.fieldLink RX0 46 "DoughDebts$Commons" "rises" "LDoughDebts$Rises;") ∈ zT := zT_t2 (List.mem_of_getElem? (i := 7) (by decide +kernel)) rfl
theorem wt_2_8 : (Cond.fieldLink RX11 280 "DoughDebts$Commons" "rises" "LDoughDebts$Rises;") ∈ zT := zT_t2 (List.mem_of_getElem? (i := 8) (by decide +kernel)) rfl
theorem wt_2_22 : (Cond.classLink RX11 26 RX1) ∈ zT := zT_t2 (List.mem_of_getElem? (i := 22) (by decide +kernel)) rfl
theorem wt_2_23 : (Cond.instantiable RX1 3) ∈ zT := zT_t2 (List.mem_of_getElem? (i := 23) (by decide +kernel)) rfl
theorem wt_2_24 : (Cond.methodLink RX11 28 yX1_init) ∈ zT := zT_t2 (List.mem_of_getElem? (i := 24) (by decide +kernel)) rfl
theorem wt_2_25 : (Cond.instanceMethod yX1_init) ∈ zT := zT_t2 (List.mem_of_getElem? (i := 25) (by decide +kernel)) rfl
theorem wt_2_26 : (Cond.code yX1_init cX1_init 2 none) ∈ zT := zT_t2 (List.mem_of_getElem? (i := 26) (by decide +kernel)) rfl
theorem wt_2_27 : (Cond.methodLink RX1 3 objectInit) ∈ zT := zT_t2 (List.mem_of_getElem? (i := 27) (by decide +kernel)) rfl
theorem wt_2_28 : (Cond.classLink RX1 9 RX10) ∈ zT := zT_t2 (List.mem_of_getElem? (i := 28) (by decide +kernel)) rfl
theorem wl_2_29 : (Cond.arrayOver (.object "DoughDebts$Times")) ∈ lw_tbl := List.mem_append_right _ ((fun h => List.mem_append_right _ (List.mem_append_left _ h)) (List.mem_of_getElem? (i := 29) (by decide +kernel) : (Cond.arrayOver (.object "DoughDebts$Times")) ∈ tables_1_2))
theorem wl_2_30 : (Cond.methodLinkNest RX1 17 yX10_init "DoughDebts") ∈ lw_tbl := List.mem_append_right _ ((fun h => List.mem_append_right _ (List.mem_append_left _ h)) (List.mem_of_getElem? (i := 30) (by decide +kernel) : (Cond.methodLinkNest RX1 17 yX10_init "DoughDebts") ∈ tables_1_2))
theorem wt_2_31 : (Cond.fieldLink RX1 11 "DoughDebts$History" "before" "[LDoughDebts$Times;") ∈ zT := zT_t2 (List.mem_of_getElem? (i := 31) (by decide +kernel)) rfl
theorem wt_2_32 : (Cond.fieldLink RX1 22 "DoughDebts$History" "oldest" "I") ∈ zT := zT_t2 (List.mem_of_getElem? (i := 32) (by decide +kernel)) rfl
theorem wt_2_33 : (Cond.fieldLink RX1 18 "DoughDebts$History" "count" "I") ∈ zT := zT_t2 (List.mem_of_getElem? (i := 33) (by decide +kernel)) rfl
theorem wt_2_34 : (Cond.fieldLink RX11 323 "DoughDebts$History" "count" "I") ∈ zT := zT_t2 (List.mem_of_getElem? (i := 34) (by decide +kernel)) rfl
theorem wt_2_42 : (Cond.classLink RX11 33 RX7) ∈ zT := zT_t2 (List.mem_of_getElem? (i := 42) (by decide +kernel)) rfl
theorem wt_2_43 : (Cond.instantiable RX7 16) ∈ zT := zT_t2 (List.mem_of_getElem? (i := 43) (by decide +kernel)) rfl
theorem wt_2_44 : (Cond.methodLink RX11 35 yX7_init) ∈ zT := zT_t2 (List.mem_of_getElem? (i := 44) (by decide +kernel)) rfl
theorem wt_2_45 : (Cond.instanceMethod yX7_init) ∈ zT := zT_t2 (List.mem_of_getElem? (i := 45) (by decide +kernel)) rfl
theorem wt_2_46 : (Cond.code yX7_init cX7_init 2 none) ∈ zT := zT_t2 (List.mem_of_getElem? (i := 46) (by decide +kernel)) rfl
theorem wt_2_47 : (Cond.methodLink RX7 3 objectInit) ∈ zT := zT_t2 (List.mem_of_getElem? (i := 47) (by decide +kernel)) rfl
theorem wt_2_48 : (Cond.fieldLink RX7 22 "DoughDebts$RuleReader" "tape" "LDoughDebts$Tape;") ∈ zT := zT_t2 (List.mem_of_getElem? (i := 48) (by decide +kernel)) rfl
theorem wt_2_49 : (Cond.fieldLink RX7 9 "DoughDebts$RuleReader" "code" "[I") ∈ zT := zT_t2 (List.mem_of_getElem? (i := 49) (by decide +kernel)) rfl
theorem wt_2_50 : (Cond.fieldLink RX11 119 "DoughDebts$RuleReader" "code" "[I") ∈ zT := zT_t2 (List.mem_of_getElem? (i := 50) (by decide +kernel)) rfl
theorem wt_2_51 : (Cond.fieldLink RX7 53 "DoughDebts$RuleReader" "codeLength" "I") ∈ zT := zT_t2 (List.mem_of_getElem? (i := 51) (by decide +kernel)) rfl
theorem wt_2_52 : (Cond.fieldLink RX11 122 "DoughDebts$RuleReader" "codeLength" "I") ∈ zT := zT_t2 (List.mem_of_getElem? (i := 52) (by decide +kernel)) rfl
theorem wt_2_53 : (Cond.fieldLink RX7 56 "DoughDebts$RuleReader" "lines" "I") ∈ zT := zT_t2 (List.mem_of_getElem? (i := 53) (by decide +kernel)) rfl
theorem wt_2_54 : (Cond.fieldLink RX11 125 "DoughDebts$RuleReader" "lines" "I") ∈ zT := zT_t2 (List.mem_of_getElem? (i := 54) (by decide +kernel)) rfl
theorem wt_2_55 : (Cond.fieldLink RX7 47 "DoughDebts$RuleReader" "fault" "I") ∈ zT := zT_t2 (List.mem_of_getElem? (i := 55) (by decide +kernel)) rfl
theorem wt_2_56 : (Cond.fieldLink RX11 135 "DoughDebts$RuleReader" "fault" "I") ∈ zT := zT_t2 (List.mem_of_getElem? (i := 56) (by decide +kernel)) rfl
theorem wt_2_57 : (Cond.fieldLink RX7 15 "DoughDebts$RuleReader" "faultPlace" "I") ∈ zT := zT_t2 (List.mem_of_getElem? (i := 57) (by decide +kernel)) rfl
theorem wt_2_58 : (Cond.fieldLink RX11 138 "DoughDebts$RuleReader" "faultPlace" "I") ∈ zT := zT_t2 (List.mem_of_getElem? (i := 58) (by decide +kernel)) rfl
theorem wt_2_59 : (Cond.fieldLink RX7 19 "DoughDebts$RuleReader" "waiting" "[I") ∈ zT := zT_t2 (List.mem_of_getElem? (i := 59) (by decide +kernel)) rfl
theorem wt_2_60 : (Cond.fieldLink RX7 59 "DoughDebts$RuleReader" "waitingCount" "I") ∈ zT := zT_t2 (List.mem_of_getElem? (i := 60) (by decide +kernel)) rfl
theorem wt_2_61 : (Cond.fieldLink RX7 40 "DoughDebts$RuleReader" "expected" "I") ∈ zT := zT_t2 (List.mem_of_getElem? (i := 61) (by decide +kernel)) rfl
theorem wt_2_62 : (Cond.fieldLink RX7 62 "DoughDebts$RuleReader" "afterOperand" "I") ∈ zT := zT_t2 (List.mem_of_getElem? (i := 62) (by decide +kernel)) rfl
theorem wt_2_63 : (Cond.fieldLink RX7 65 "DoughDebts$RuleReader" "open" "I") ∈ zT := zT_t2 (List.mem_of_getElem? (i := 63) (by decide +kernel)) rfl
theorem wt_2_64 : (Cond.fieldLink RX7 68 "DoughDebts$RuleReader" "brackets" "I") ∈ zT := zT_t2 (List.mem_of_getElem? (i := 64) (by decide +kernel)) rfl
theorem wt_2_65 : (Cond.fieldLink RX7 71 "DoughDebts$RuleReader" "next" "I") ∈ zT := zT_t2 (List.mem_of_getElem? (i := 65) (by decide +kernel)) rfl
theorem wt_2_66 : (Cond.fieldLink RX7 50 "DoughDebts$RuleReader" "place" "I") ∈ zT := zT_t2 (List.mem_of_getElem? (i := 66) (by decide +kernel)) rfl
theorem wt_2_67 : (Cond.fieldLink RX7 37 "DoughDebts$RuleReader" "kind" "I") ∈ zT := zT_t2 (List.mem_of_getElem? (i := 67) (by decide +kernel)) rfl
theorem wt_2_68 : (Cond.fieldLink RX7 114 "DoughDebts$RuleReader" "value" "I") ∈ zT := zT_t2 (List.mem_of_getElem? (i := 68) (by decide +kernel)) rfl
theorem wt_2_102 : (Cond.classLink RX11 42 RX4) ∈ zT := zT_t2 (List.mem_of_getElem? (i := 102) (by decide +kernel)) rfl
theorem wt_2_103 : (Cond.instantiable RX4 14) ∈ zT := zT_t2 (List.mem_of_getElem? (i := 103) (by decide +kernel)) rfl
theorem wt_2_104 : (Cond.methodLink RX11 44 yX4_init) ∈ zT := zT_t2 (List.mem_of_getElem? (i := 104) (by decide +kernel)) rfl
theorem wt_2_105 : (Cond.instanceMethod yX4_init) ∈ zT := zT_t2 (List.mem_of_getElem? (i := 105) (by decide +kernel)) rfl
theorem wt_2_106 : (Cond.code yX4_init cX4_init 2 none) ∈ zT := zT_t2 (List.mem_of_getElem? (i := 106) (by decide +kernel)) rfl
theorem wt_2_107 : (Cond.methodLink RX4 3 objectInit) ∈ zT := zT_t2 (List.mem_of_getElem? (i := 107) (by decide +kernel)) rfl
theorem wt_2_108 : (Cond.fieldLink RX4 41 "DoughDebts$Lineup" "commons" "LDoughDebts$Commons;") ∈ zT := zT_t2 (List.mem_of_getElem? (i := 108) (by decide +kernel)) rfl
theorem wt_2_109 : (Cond.fieldLink RX4 9 "DoughDebts$Lineup" "order" "[I") ∈ zT := zT_t2 (List.mem_of_getElem? (i := 109) (by decide +kernel)) rfl
theorem wt_2_110 : (Cond.fieldLink RX11 144 "DoughDebts$Lineup" "order" "[I") ∈ zT := zT_t2 (List.mem_of_getElem? (i := 110) (by decide +kernel)) rfl
theorem wt_2_111 : (Cond.fieldLink RX4 15 "DoughDebts$Lineup" "found" "[I") ∈ zT := zT_t2 (List.mem_of_getElem? (i := 111) (by decide +kernel)) rfl
theorem wt_2_112 : (Cond.fieldLink RX11 218 "DoughDebts$Lineup" "found" "[I") ∈ zT := zT_t2 (List.mem_of_getElem? (i := 112) (by decide +kernel)) rfl
theorem wt_2_113 : (Cond.fieldLink RX11 215 "DoughDebts$Lineup" "settledCount" "I") ∈ zT := zT_t2 (List.mem_of_getElem? (i := 113) (by decide +kernel)) rfl
theorem wt_2_114 : (Cond.fieldLink RX4 196 "DoughDebts$Lineup" "settledCount" "I") ∈ zT := zT_t2 (List.mem_of_getElem? (i := 114) (by decide +kernel)) rfl
theorem wt_2_115 : (Cond.fieldLink RX11 233 "DoughDebts$Lineup" "leastWood" "I") ∈ zT := zT_t2 (List.mem_of_getElem? (i := 115) (by decide +kernel)) rfl
theorem wt_2_116 : (Cond.fieldLink RX4 219 "DoughDebts$Lineup" "leastWood" "I") ∈ zT := zT_t2 (List.mem_of_getElem? (i := 116) (by decide +kernel)) rfl
theorem wt_2_117 : (Cond.fieldLink RX11 224 "DoughDebts$Lineup" "changes" "I") ∈ zT := zT_t2 (List.mem_of_getElem? (i := 117) (by decide +kernel)) rfl
theorem wt_2_118 : (Cond.fieldLink RX4 225 "DoughDebts$Lineup" "changes" "I") ∈ zT := zT_t2 (List.mem_of_getElem? (i := 118) (by decide +kernel)) rfl
theorem wt_2_119 : (Cond.fieldLink RX11 227 "DoughDebts$Lineup" "circle" "I") ∈ zT := zT_t2 (List.mem_of_getElem? (i := 119) (by decide +kernel)) rfl
theorem wt_2_120 : (Cond.fieldLink RX4 228 "DoughDebts$Lineup" "circle" "I") ∈ zT := zT_t2 (List.mem_of_getElem? (i := 120) (by decide +kernel)) rfl
theorem wt_2_121 : (Cond.fieldLink RX4 18 "DoughDebts$Lineup" "worth" "[I") ∈ zT := zT_t2 (List.mem_of_getElem? (i := 121) (by decide +kernel)) rfl
theorem wt_2_122 : (Cond.fieldLink RX4 21 "DoughDebts$Lineup" "facts" "[I") ∈ zT := zT_t2 (List.mem_of_getElem? (i := 122) (by decide +kernel)) rfl
theorem wt_2_123 : (Cond.fieldLink RX4 24 "DoughDebts$Lineup" "stack" "[I") ∈ zT := zT_t2 (List.mem_of_getElem? (i := 123) (by decide +kernel)) rfl
theorem wt_2_124 : (Cond.fieldLink RX4 27 "DoughDebts$Lineup" "loaf" "[I") ∈ zT := zT_t2 (List.mem_of_getElem? (i := 124) (by decide +kernel)) rfl
theorem wt_2_125 : (Cond.fieldLink RX4 30 "DoughDebts$Lineup" "heat" "[I") ∈ zT := zT_t2 (List.mem_of_getElem? (i := 125) (by decide +kernel)) rfl
theorem wt_2_126 : (Cond.fieldLink RX4 33 "DoughDebts$Lineup" "placed" "[Z") ∈ zT := zT_t2 (List.mem_of_getElem? (i := 126) (by decide +kernel)) rfl
theorem wt_2_127 : (Cond.fieldLink RX4 37 "DoughDebts$Lineup" "seen" "[J") ∈ zT := zT_t2 (List.mem_of_getElem? (i := 127) (by decide +kernel)) rfl
theorem wt_2_157 : (Cond.arrayClass .boolean) ∈ zT := zT_t2 (List.mem_of_getElem? (i := 157) (by decide +kernel)) rfl
theorem wt_2_158 : (Cond.classLink RX11 51 RX8) ∈ zT := zT_t2 (List.mem_of_getElem? (i := 158) (by decide +kernel)) rfl
theorem wt_2_159 : (Cond.instantiable RX8 3) ∈ zT := zT_t2 (List.mem_of_getElem? (i := 159) (by decide +kernel)) rfl
theorem wl_2_160 : (Cond.methodLinkNest RX11 53 yX8_init "DoughDebts") ∈ lw_tbl := List.mem_append_right _ ((fun h => List.mem_append_right _ (List.mem_append_left _ h)) (List.mem_of_getElem? (i := 160) (by decide +kernel) : (Cond.methodLinkNest RX11 53 yX8_init "DoughDebts") ∈ tables_1_2))
theorem wt_2_161 : (Cond.instanceMethod yX8_init) ∈ zT := zT_t2 (List.mem_of_getElem? (i := 161) (by decide +kernel)) rfl
theorem wt_2_162 : (Cond.code yX8_init cX8_init 1 none) ∈ zT := zT_t2 (List.mem_of_getElem? (i := 162) (by decide +kernel)) rfl
theorem wt_2_163 : (Cond.methodLink RX8 3 objectInit) ∈ zT := zT_t2 (List.mem_of_getElem? (i := 163) (by decide +kernel)) rfl
theorem wt_2_164 : (Cond.fieldLink RX8 9 "DoughDebts$Settling" "unsettled" "[I") ∈ zT := zT_t2 (List.mem_of_getElem? (i := 164) (by decide +kernel)) rfl
theorem wt_2_165 : (Cond.fieldLink RX8 15 "DoughDebts$Settling" "sum" "[I") ∈ zT := zT_t2 (List.mem_of_getElem? (i := 165) (by decide +kernel)) rfl
theorem wt_2_166 : (Cond.fieldLink RX8 18 "DoughDebts$Settling" "parts" "[I") ∈ zT := zT_t2 (List.mem_of_getElem? (i := 166) (by decide +kernel)) rfl
theorem wt_2_174 : (Cond.fieldLink RX11 12 "DoughDebts" "tape" "LDoughDebts$Tape;") ∈ zT := zT_t2 (List.mem_of_getElem? (i := 174) (by decide +kernel)) rfl
theorem wt_2_175 : (Cond.fieldLink RX11 19 "DoughDebts" "now" "LDoughDebts$Commons;") ∈ zT := zT_t2 (List.mem_of_getElem? (i := 175) (by decide +kernel)) rfl
theorem wt_2_176 : (Cond.fieldLink RX11 23 "DoughDebts" "kept" "LDoughDebts$Commons;") ∈ zT := zT_t2 (List.mem_of_getElem? (i := 176) (by decide +kernel)) rfl
theorem wt_2_177 : (Cond.fieldLink RX11 315 "DoughDebts" "imageTaken" "Z") ∈ zT := zT_t2 (List.mem_of_getElem? (i := 177) (by decide +kernel)) rfl
theorem wt_2_178 : (Cond.fieldLink RX11 29 "DoughDebts" "history" "LDoughDebts$History;") ∈ zT := zT_t2 (List.mem_of_getElem? (i := 178) (by decide +kernel)) rfl
theorem wt_2_179 : (Cond.fieldLink RX11 38 "DoughDebts" "reader" "LDoughDebts$RuleReader;") ∈ zT := zT_t2 (List.mem_of_getElem? (i := 179) (by decide +kernel)) rfl
theorem wt_2_180 : (Cond.fieldLink RX11 47 "DoughDebts" "lineup" "LDoughDebts$Lineup;") ∈ zT := zT_t2 (List.mem_of_getElem? (i := 180) (by decide +kernel)) rfl
theorem wt_2_181 : (Cond.fieldLink RX11 54 "DoughDebts" "settling" "LDoughDebts$Settling;") ∈ zT := zT_t2 (List.mem_of_getElem? (i := 181) (by decide +kernel)) rfl
theorem wt_2_199 : (Cond.methodLink RL 13 yX11_state) ∈ zT := zT_t2 (List.mem_of_getElem? (i := 199) (by decide +kernel)) rfl
theorem wt_2_200 : (Cond.instanceMethod yX11_state) ∈ zT := zT_t2 (List.mem_of_getElem? (i := 200) (by decide +kernel)) rfl
theorem wt_2_201 : (Cond.selects RX11 yX11_state yX11_state) ∈ zT := zT_t2 (List.mem_of_getElem? (i := 201) (by decide +kernel)) rfl
theorem wt_2_202 : (Cond.code yX11_state cX11_state 3 (Option.some .int)) ∈ zT := zT_t2 (List.mem_of_getElem? (i := 202) (by decide +kernel)) rfl
theorem wt_2_203 : (Cond.methodLink RL 18 yX11_feed) ∈ zT := zT_t2 (List.mem_of_getElem? (i := 203) (by decide +kernel)) rfl
theorem wt_2_204 : (Cond.instanceMethod yX11_feed) ∈ zT := zT_t2 (List.mem_of_getElem? (i := 204) (by decide +kernel)) rfl
theorem wt_2_205 : (Cond.selects RX11 yX11_feed yX11_feed) ∈ zT := zT_t2 (List.mem_of_getElem? (i := 205) (by decide +kernel)) rfl
theorem wt_2_206 : (Cond.code yX11_feed cX11_feed 6 (Option.some .int)) ∈ zT := zT_t2 (List.mem_of_getElem? (i := 206) (by decide +kernel)) rfl
theorem wt_2_207 : (Cond.methodLink RX11 71 yX9_add) ∈ zT := zT_t2 (List.mem_of_getElem? (i := 207) (by decide +kernel)) rfl
theorem wt_2_208 : (Cond.instanceMethod yX9_add) ∈ zT := zT_t2 (List.mem_of_getElem? (i := 208) (by decide +kernel)) rfl
theorem wt_2_209 : (Cond.selects RX9 yX9_add yX9_add) ∈ zT := zT_t2 (List.mem_of_getElem? (i := 209) (by decide +kernel)) rfl
theorem wt_2_210 : (Cond.code yX9_add cX9_add 3 none) ∈ zT := zT_t2 (List.mem_of_getElem? (i := 210) (by decide +kernel)) rfl
theorem wt_2_211 : (Cond.methodLink RL 23 yX11_end) ∈ zT := zT_t2 (List.mem_of_getElem? (i := 211) (by decide +kernel)) rfl
theorem wt_2_212 : (Cond.instanceMethod yX11_end) ∈ zT := zT_t2 (List.mem_of_getElem? (i := 212) (by decide +kernel)) rfl
theorem wt_2_213 : (Cond.selects RX11 yX11_end yX11_end) ∈ zT := zT_t2 (List.mem_of_getElem? (i := 213) (by decide +kernel)) rfl
theorem wt_2_214 : (Cond.code yX11_end cX11_end 2 (Option.some .boolean)) ∈ zT := zT_t2 (List.mem_of_getElem? (i := 214) (by decide +kernel)) rfl
theorem wt_2_215 : (Cond.methodLink RL 28 yX11_house) ∈ zT := zT_t2 (List.mem_of_getElem? (i := 215) (by decide +kernel)) rfl
theorem wt_2_216 : (Cond.instanceMethod yX11_house) ∈ zT := zT_t2 (List.mem_of_getElem? (i := 216) (by decide +kernel)) rfl
theorem wt_2_217 : (Cond.selects RX11 yX11_house yX11_house) ∈ zT := zT_t2 (List.mem_of_getElem? (i := 217) (by decide +kernel)) rfl
theorem wt_2_218 : (Cond.code yX11_house cX11_house 5 (Option.some .int)) ∈ zT := zT_t2 (List.mem_of_getElem? (i := 218) (by decide +kernel)) rfl
theorem wt_2_219 : (Cond.methodLink RX11 75 yX11_isWithin) ∈ zT := zT_t2 (List.mem_of_getElem? (i := 219) (by decide +kernel)) rfl
theorem wt_2_220 : (Cond.static yX11_isWithin) ∈ zT := zT_t2 (List.mem_of_getElem? (i := 220) (by decide +kernel)) rfl
theorem wt_2_221 : (Cond.code yX11_isWithin cX11_isWithin 3 (Option.some .boolean)) ∈ zT := zT_t2 (List.mem_of_getElem? (i := 221) (by decide +kernel)) rfl
theorem wt_2_222 : (Cond.methodLink RX11 79 yX9_isMark) ∈ zT := zT_t2 (List.mem_of_getElem? (i := 222) (by decide +kernel)) rfl
theorem wt_2_223 : (Cond.instanceMethod yX9_isMark) ∈ zT := zT_t2 (List.mem_of_getElem? (i := 223) (by decide +kernel)) rfl
theorem wt_2_224 : (Cond.selects RX9 yX9_isMark yX9_isMark) ∈ zT := zT_t2 (List.mem_of_getElem? (i := 224) (by decide +kernel)) rfl
theorem wt_2_225 : (Cond.code yX9_isMark cX9_isMark 2 (Option.some .boolean)) ∈ zT := zT_t2 (List.mem_of_getElem? (i := 225) (by decide +kernel)) rfl
theorem wt_2_226 : (Cond.methodLink RX9 19 yX9_letterAt) ∈ zT := zT_t2 (List.mem_of_getElem? (i := 226) (by decide +kernel)) rfl
theorem wt_2_227 : (Cond.instanceMethod yX9_letterAt) ∈ zT := zT_t2 (List.mem_of_getElem? (i := 227) (by decide +kernel)) rfl
theorem wt_2_228 : (Cond.selects RX9 yX9_letterAt yX9_letterAt) ∈ zT := zT_t2 (List.mem_of_getElem? (i := 228) (by decide +kernel)) rfl
theorem wt_2_229 : (Cond.code yX9_letterAt cX9_letterAt 2 (Option.some .int)) ∈ zT := zT_t2 (List.mem_of_getElem? (i := 229) (by decide +kernel)) rfl
theorem wt_2_230 : (Cond.methodLink RX11 87 yX2_add) ∈ zT := zT_t2 (List.mem_of_getElem? (i := 230) (by decide +kernel)) rfl
theorem wt_2_231 : (Cond.instanceMethod yX2_add) ∈ zT := zT_t2 (List.mem_of_getElem? (i := 231) (by decide +kernel)) rfl
theorem wt_2_232 : (Cond.selects RX2 yX2_add yX2_add) ∈ zT := zT_t2 (List.mem_of_getElem? (i := 232) (by decide +kernel)) rfl
theorem wt_2_233 : (Cond.code yX2_add cX2_add 6 (Option.some .int)) ∈ zT := zT_t2 (List.mem_of_getElem? (i := 233) (by decide +kernel)) rfl
theorem wt_2_234 : (Cond.methodLink RX2 39 yX9_letterAt) ∈ zT := zT_t2 (List.mem_of_getElem? (i := 234) (by decide +kernel)) rfl
theorem wt_2_235 : (Cond.methodLink RX11 92 yX1_forget) ∈ zT := zT_t2 (List.mem_of_getElem? (i := 235) (by decide +kernel)) rfl
theorem wt_2_236 : (Cond.instanceMethod yX1_forget) ∈ zT := zT_t2 (List.mem_of_getElem? (i := 236) (by decide +kernel)) rfl
theorem wt_2_237 : (Cond.selects RX1 yX1_forget yX1_forget) ∈ zT := zT_t2 (List.mem_of_getElem? (i := 237) (by decide +kernel)) rfl
theorem wt_2_238 : (Cond.code yX1_forget cX1_forget 1 none) ∈ zT := zT_t2 (List.mem_of_getElem? (i := 238) (by decide +kernel)) rfl
theorem wt_2_239 : (Cond.methodLink RL 33 yX11_give) ∈ zT := zT_t2 (List.mem_of_getElem? (i := 239) (by decide +kernel)) rfl
theorem wt_3_0 : (Cond.instanceMethod yX11_give) ∈ zT := zT_t3 (List.mem_of_getElem? (i := 0) (by decide +kernel)) rfl
theorem wt_3_1 : (Cond.selects RX11 yX11_give yX11_give) ∈ zT := zT_t3 (List.mem_of_getElem? (i := 1) (by decide +kernel)) rfl
theorem wt_3_2 : (Cond.code yX11_give cX11_give 3 (Option.some .boolean)) ∈ zT := zT_t3 (List.mem_of_getElem? (i := 2) (by decide +kernel)) rfl
theorem wt_3_3 : (Cond.methodLink RX11 95 yX2_has) ∈ zT := zT_t3 (List.mem_of_getElem? (i := 3) (by decide +kernel)) rfl
theorem wt_3_4 : (Cond.instanceMethod yX2_has) ∈ zT := zT_t3 (List.mem_of_getElem? (i := 4) (by decide +kernel)) rfl
theorem wt_3_5 : (Cond.selects RX2 yX2_has yX2_has) ∈ zT := zT_t3 (List.mem_of_getElem? (i := 5) (by decide +kernel)) rfl
theorem wt_3_6 : (Cond.code yX2_has cX2_has 2 (Option.some .boolean)) ∈ zT := zT_t3 (List.mem_of_getElem? (i := 6) (by decide +kernel)) rfl
theorem wt_3_7 : (Cond.constant RX11 99 (99999 : Int32)) ∈ zT := zT_t3 (List.mem_of_getElem? (i := 7) (by decide +kernel)) rfl
theorem wt_3_8 : (Cond.constant RX11 104 (999999 : Int32)) ∈ zT := zT_t3 (List.mem_of_getElem? (i := 8) (by decide +kernel)) rfl
theorem wt_3_9 : (Cond.methodLink RL 38 yX11_set) ∈ zT := zT_t3 (List.mem_of_getElem? (i := 9) (by decide +kernel)) rfl
theorem wt_3_10 : (Cond.instanceMethod yX11_set) ∈ zT := zT_t3 (List.mem_of_getElem? (i := 10) (by decide +kernel)) rfl
theorem wt_3_11 : (Cond.selects RX11 yX11_set yX11_set) ∈ zT := zT_t3 (List.mem_of_getElem? (i := 11) (by decide +kernel)) rfl
theorem wt_3_12 : (Cond.code yX11_set cX11_set 3 (Option.some .boolean)) ∈ zT := zT_t3 (List.mem_of_getElem? (i := 12) (by decide +kernel)) rfl
theorem wt_3_13 : (Cond.methodLink RX11 105 yX11_isSetting) ∈ zT := zT_t3 (List.mem_of_getElem? (i := 13) (by decide +kernel)) rfl
theorem wt_3_14 : (Cond.static yX11_isSetting) ∈ zT := zT_t3 (List.mem_of_getElem? (i := 14) (by decide +kernel)) rfl
theorem wt_3_15 : (Cond.code yX11_isSetting cX11_isSetting 2 (Option.some .boolean)) ∈ zT := zT_t3 (List.mem_of_getElem? (i := 15) (by decide +kernel)) rfl
theorem wt_3_16 : (Cond.methodLink RL 42 yX11_text) ∈ zT := zT_t3 (List.mem_of_getElem? (i := 16) (by decide +kernel)) rfl
theorem wt_3_17 : (Cond.instanceMethod yX11_text) ∈ zT := zT_t3 (List.mem_of_getElem? (i := 17) (by decide +kernel)) rfl
theorem wt_3_18 : (Cond.selects RX11 yX11_text yX11_text) ∈ zT := zT_t3 (List.mem_of_getElem? (i := 18) (by decide +kernel)) rfl
theorem wt_3_19 : (Cond.code yX11_text cX11_text 2 (Option.some .int)) ∈ zT := zT_t3 (List.mem_of_getElem? (i := 19) (by decide +kernel)) rfl
theorem wt_3_20 : (Cond.methodLink RX11 112 yX7_read) ∈ zT := zT_t3 (List.mem_of_getElem? (i := 20) (by decide +kernel)) rfl
theorem wt_3_21 : (Cond.instanceMethod yX7_read) ∈ zT := zT_t3 (List.mem_of_getElem? (i := 21) (by decide +kernel)) rfl
theorem wt_3_22 : (Cond.selects RX7 yX7_read yX7_read) ∈ zT := zT_t3 (List.mem_of_getElem? (i := 22) (by decide +kernel)) rfl
theorem wt_3_23 : (Cond.code yX7_read cX7_read 2 (Option.some .boolean)) ∈ zT := zT_t3 (List.mem_of_getElem? (i := 23) (by decide +kernel)) rfl
theorem wt_3_24 : (Cond.methodLink RX7 26 yX7_begin) ∈ zT := zT_t3 (List.mem_of_getElem? (i := 24) (by decide +kernel)) rfl
theorem wt_3_26 : (Cond.instanceMethod yX7_begin) ∈ zT := zT_t3 (List.mem_of_getElem? (i := 26) (by decide +kernel)) rfl
theorem wt_3_27 : (Cond.code yX7_begin cX7_begin 1 none) ∈ zT := zT_t3 (List.mem_of_getElem? (i := 27) (by decide +kernel)) rfl
theorem wt_3_28 : (Cond.methodLink RX7 34 yX7_readToken) ∈ zT := zT_t3 (List.mem_of_getElem? (i := 28) (by decide +kernel)) rfl
theorem wt_3_30 : (Cond.instanceMethod yX7_readToken) ∈ zT := zT_t3 (List.mem_of_getElem? (i := 30) (by decide +kernel)) rfl
theorem wt_3_31 : (Cond.code yX7_readToken cX7_readToken 1 none) ∈ zT := zT_t3 (List.mem_of_getElem? (i := 31) (by decide +kernel)) rfl
theorem wt_3_32 : (Cond.methodLink RX7 74 yX7_skipBlanks) ∈ zT := zT_t3 (List.mem_of_getElem? (i := 32) (by decide +kernel)) rfl
theorem wt_3_34 : (Cond.instanceMethod yX7_skipBlanks) ∈ zT := zT_t3 (List.mem_of_getElem? (i := 34) (by decide +kernel)) rfl
theorem wt_3_35 : (Cond.code yX7_skipBlanks cX7_skipBlanks 1 none) ∈ zT := zT_t3 (List.mem_of_getElem? (i := 35) (by decide +kernel)) rfl
theorem wt_3_36 : (Cond.methodLink RX7 77 yX7_isLetter) ∈ zT := zT_t3 (List.mem_of_getElem? (i := 36) (by decide +kernel)) rfl
theorem wt_3_38 : (Cond.instanceMethod yX7_isLetter) ∈ zT := zT_t3 (List.mem_of_getElem? (i := 38) (by decide +kernel)) rfl
theorem wt_3_39 : (Cond.code yX7_isLetter cX7_isLetter 2 (Option.some .boolean)) ∈ zT := zT_t3 (List.mem_of_getElem? (i := 39) (by decide +kernel)) rfl
theorem wl_3_40 : (Cond.methodLinkNest RX7 101 yX11_isWithin "DoughDebts") ∈ lw_tbl := List.mem_append_right _ ((fun h => List.mem_append_right _ (List.mem_append_right _ (List.mem_append_left _ h))) (List.mem_of_getElem? (i := 40) (by decide +kernel) : (Cond.methodLinkNest RX7 101 yX11_isWithin "DoughDebts") ∈ tables_1_3))
theorem wt_3_41 : (Cond.methodLink RX7 81 yX7_readKeyword) ∈ zT := zT_t3 (List.mem_of_getElem? (i := 41) (by decide +kernel)) rfl
theorem wt_3_43 : (Cond.instanceMethod yX7_readKeyword) ∈ zT := zT_t3 (List.mem_of_getElem? (i := 43) (by decide +kernel)) rfl
theorem wt_3_44 : (Cond.code yX7_readKeyword cX7_readKeyword 2 none) ∈ zT := zT_t3 (List.mem_of_getElem? (i := 44) (by decide +kernel)) rfl
theorem wt_3_45 : (Cond.methodLink RX7 105 yX7_isKeyword) ∈ zT := zT_t3 (List.mem_of_getElem? (i := 45) (by decide +kernel)) rfl
theorem wt_3_47 : (Cond.instanceMethod yX7_isKeyword) ∈ zT := zT_t3 (List.mem_of_getElem? (i := 47) (by decide +kernel)) rfl
theorem wt_3_48 : (Cond.code yX7_isKeyword cX7_isKeyword 4 (Option.some .boolean)) ∈ zT := zT_t3 (List.mem_of_getElem? (i := 48) (by decide +kernel)) rfl
theorem wl_3_49 : (Cond.stringRef RX7 108 "worthwhen or   and  not  size need doughbreadwood firstsour houseday  owes ") ∈ lw_tbl := List.mem_append_right _ ((fun h => List.mem_append_right _ (List.mem_append_right _ (List.mem_append_left _ h))) (List.mem_of_getElem? (i := 49) (by decide +kernel) : (Cond.stringRef RX7 108 "worthwhen or   and  not  size need doughbreadwood firstsour houseday  owes ") ∈ tables_1_3))
theorem wt_3_50 : (Cond.methodLink RX7 110 yJ0_charAt_5068e) ∈ zT := zT_t3 (List.mem_of_getElem? (i := 50) (by decide +kernel)) rfl
theorem wt_3_51 : (Cond.instanceMethod yJ0_charAt_5068e) ∈ zT := zT_t3 (List.mem_of_getElem? (i := 51) (by decide +kernel)) rfl
theorem wt_3_52 : (Cond.selects RJ0 yJ0_charAt_5068e yJ0_charAt_5068e) ∈ zT := zT_t3 (List.mem_of_getElem? (i := 52) (by decide +kernel)) rfl
theorem wt_3_53 : (Cond.code yJ0_charAt_5068e cJ0_charAt_5068e 2 (Option.some .char)) ∈ zT := zT_t3 (List.mem_of_getElem? (i := 53) (by decide +kernel)) rfl
theorem wt_3_54 : (Cond.methodLink RJ0 492 yJ0_isLatin1_aae02) ∈ zT := zT_t3 (List.mem_of_getElem? (i := 54) (by decide +kernel)) rfl
theorem wt_3_55 : (Cond.instanceMethod yJ0_isLatin1_aae02) ∈ zT := zT_t3 (List.mem_of_getElem? (i := 55) (by decide +kernel)) rfl
theorem wt_3_56 : (Cond.selects RJ0 yJ0_isLatin1_aae02 yJ0_isLatin1_aae02) ∈ zT := zT_t3 (List.mem_of_getElem? (i := 56) (by decide +kernel)) rfl
theorem wt_3_57 : (Cond.code yJ0_isLatin1_aae02 cJ0_isLatin1_aae02 1 (Option.some .boolean)) ∈ zT := zT_t3 (List.mem_of_getElem? (i := 57) (by decide +kernel)) rfl
theorem wt_3_58 : (Cond.fieldLink RJ0 38 "java/lang/String" "COMPACT_STRINGS" "Z") ∈ zT := zT_t3 (List.mem_of_getElem? (i := 58) (by decide +kernel)) rfl
theorem wt_3_60 : (Cond.methodLink RJ0 495 yJ1_charAt_3b067) ∈ zT := zT_t3 (List.mem_of_getElem? (i := 60) (by decide +kernel)) rfl
theorem wt_3_61 : (Cond.static yJ1_charAt_3b067) ∈ zT := zT_t3 (List.mem_of_getElem? (i := 61) (by decide +kernel)) rfl
theorem wt_3_62 : (Cond.code yJ1_charAt_3b067 cJ1_charAt_3b067 2 (Option.some .char)) ∈ zT := zT_t3 (List.mem_of_getElem? (i := 62) (by decide +kernel)) rfl
theorem wt_3_63 : (Cond.methodLink RJ1 9 yJ0_checkIndex_df160) ∈ zT := zT_t3 (List.mem_of_getElem? (i := 63) (by decide +kernel)) rfl
theorem wt_3_64 : (Cond.static yJ0_checkIndex_df160) ∈ zT := zT_t3 (List.mem_of_getElem? (i := 64) (by decide +kernel)) rfl
theorem wt_3_65 : (Cond.code yJ0_checkIndex_df160 cJ0_checkIndex_df160 2 none) ∈ zT := zT_t3 (List.mem_of_getElem? (i := 65) (by decide +kernel)) rfl
theorem wt_3_66 : (Cond.fieldLink RJ0 1053 "jdk/internal/util/Preconditions" "SIOOBE_FORMATTER" "Ljava/util/function/BiFunction;") ∈ zT := zT_t3 (List.mem_of_getElem? (i := 66) (by decide +kernel)) rfl
theorem wt_3_68 : (Cond.methodLink RJ0 1059 yJ3_checkIndex_8e157) ∈ zT := zT_t3 (List.mem_of_getElem? (i := 68) (by decide +kernel)) rfl
theorem wt_3_69 : (Cond.static yJ3_checkIndex_8e157) ∈ zT := zT_t3 (List.mem_of_getElem? (i := 69) (by decide +kernel)) rfl
theorem wt_3_70 : (Cond.code yJ3_checkIndex_8e157 cJ3_checkIndex_8e157 3 (Option.some .int)) ∈ zT := zT_t3 (List.mem_of_getElem? (i := 70) (by decide +kernel)) rfl
theorem wt_3_71 : (Cond.methodLink RJ0 498 yJ2_charAt_3b067) ∈ zT := zT_t3 (List.mem_of_getElem? (i := 71) (by decide +kernel)) rfl
theorem wt_3_72 : (Cond.static yJ2_charAt_3b067) ∈ zT := zT_t3 (List.mem_of_getElem? (i := 72) (by decide +kernel)) rfl
theorem wt_3_73 : (Cond.code yJ2_charAt_3b067 cJ2_charAt_3b067 2 (Option.some .char)) ∈ zT := zT_t3 (List.mem_of_getElem? (i := 73) (by decide +kernel)) rfl
theorem wt_3_74 : (Cond.methodLink RJ2 67 yJ2_checkIndex_2214a) ∈ zT := zT_t3 (List.mem_of_getElem? (i := 74) (by decide +kernel)) rfl
theorem wt_3_75 : (Cond.static yJ2_checkIndex_2214a) ∈ zT := zT_t3 (List.mem_of_getElem? (i := 75) (by decide +kernel)) rfl
theorem wt_3_76 : (Cond.code yJ2_checkIndex_2214a cJ2_checkIndex_2214a 2 none) ∈ zT := zT_t3 (List.mem_of_getElem? (i := 76) (by decide +kernel)) rfl
theorem wt_3_77 : (Cond.methodLink RJ2 48 yJ2_length_9d52b) ∈ zT := zT_t3 (List.mem_of_getElem? (i := 77) (by decide +kernel)) rfl
theorem wt_3_78 : (Cond.static yJ2_length_9d52b) ∈ zT := zT_t3 (List.mem_of_getElem? (i := 78) (by decide +kernel)) rfl
theorem wt_3_79 : (Cond.code yJ2_length_9d52b cJ2_length_9d52b 1 (Option.some .int)) ∈ zT := zT_t3 (List.mem_of_getElem? (i := 79) (by decide +kernel)) rfl
theorem wt_3_80 : (Cond.methodLink RJ2 414 yJ0_checkIndex_df160) ∈ zT := zT_t3 (List.mem_of_getElem? (i := 80) (by decide +kernel)) rfl
theorem wt_3_81 : (Cond.methodLink RJ2 71 yJ2_getChar_3b067) ∈ zT := zT_t3 (List.mem_of_getElem? (i := 81) (by decide +kernel)) rfl
theorem wt_3_82 : (Cond.static yJ2_getChar_3b067) ∈ zT := zT_t3 (List.mem_of_getElem? (i := 82) (by decide +kernel)) rfl
theorem wt_3_83 : (Cond.code yJ2_getChar_3b067 cJ2_getChar_3b067 2 (Option.some .char)) ∈ zT := zT_t3 (List.mem_of_getElem? (i := 83) (by decide +kernel)) rfl
theorem wt_3_84 : (Cond.fieldLink RJ2 44 "java/lang/StringUTF16" "$assertionsDisabled" "Z") ∈ zT := zT_t3 (List.mem_of_getElem? (i := 84) (by decide +kernel)) rfl
theorem wt_3_86 : (Cond.fieldLink RJ2 59 "java/lang/StringUTF16" "HI_BYTE_SHIFT" "I") ∈ zT := zT_t3 (List.mem_of_getElem? (i := 86) (by decide +kernel)) rfl
theorem wt_3_88 : (Cond.fieldLink RJ2 63 "java/lang/StringUTF16" "LO_BYTE_SHIFT" "I") ∈ zT := zT_t3 (List.mem_of_getElem? (i := 88) (by decide +kernel)) rfl
theorem wt_3_90 : (Cond.methodLink RX7 84 yX7_isDigit) ∈ zT := zT_t3 (List.mem_of_getElem? (i := 90) (by decide +kernel)) rfl
theorem wt_3_92 : (Cond.instanceMethod yX7_isDigit) ∈ zT := zT_t3 (List.mem_of_getElem? (i := 92) (by decide +kernel)) rfl
theorem wt_3_93 : (Cond.code yX7_isDigit cX7_isDigit 2 (Option.some .boolean)) ∈ zT := zT_t3 (List.mem_of_getElem? (i := 93) (by decide +kernel)) rfl
theorem wt_3_94 : (Cond.methodLink RX7 87 yX7_readNumber) ∈ zT := zT_t3 (List.mem_of_getElem? (i := 94) (by decide +kernel)) rfl
theorem wt_3_96 : (Cond.instanceMethod yX7_readNumber) ∈ zT := zT_t3 (List.mem_of_getElem? (i := 96) (by decide +kernel)) rfl
theorem wt_3_97 : (Cond.code yX7_readNumber cX7_readNumber 1 none) ∈ zT := zT_t3 (List.mem_of_getElem? (i := 97) (by decide +kernel)) rfl
theorem wl_3_98 : (Cond.stringRef RX7 90 ";+-*/()<=>") ∈ lw_tbl := List.mem_append_right _ ((fun h => List.mem_append_right _ (List.mem_append_right _ (List.mem_append_left _ h))) (List.mem_of_getElem? (i := 98) (by decide +kernel) : (Cond.stringRef RX7 90 ";+-*/()<=>") ∈ tables_1_3))
theorem wt_3_99 : (Cond.methodLink RX7 95 yJ0_indexOf_0f7a4) ∈ zT := zT_t3 (List.mem_of_getElem? (i := 99) (by decide +kernel)) rfl
theorem wt_3_100 : (Cond.instanceMethod yJ0_indexOf_0f7a4) ∈ zT := zT_t3 (List.mem_of_getElem? (i := 100) (by decide +kernel)) rfl
theorem wt_3_101 : (Cond.selects RJ0 yJ0_indexOf_0f7a4 yJ0_indexOf_0f7a4) ∈ zT := zT_t3 (List.mem_of_getElem? (i := 101) (by decide +kernel)) rfl
theorem wt_3_102 : (Cond.code yJ0_indexOf_0f7a4 cJ0_indexOf_0f7a4 2 (Option.some .int)) ∈ zT := zT_t3 (List.mem_of_getElem? (i := 102) (by decide +kernel)) rfl
theorem wt_3_103 : (Cond.methodLink RJ0 633 yJ0_indexOf_7cf53) ∈ zT := zT_t3 (List.mem_of_getElem? (i := 103) (by decide +kernel)) rfl
theorem wt_3_104 : (Cond.instanceMethod yJ0_indexOf_7cf53) ∈ zT := zT_t3 (List.mem_of_getElem? (i := 104) (by decide +kernel)) rfl
theorem wt_3_105 : (Cond.selects RJ0 yJ0_indexOf_7cf53 yJ0_indexOf_7cf53) ∈ zT := zT_t3 (List.mem_of_getElem? (i := 105) (by decide +kernel)) rfl
theorem wt_3_106 : (Cond.code yJ0_indexOf_7cf53 cJ0_indexOf_7cf53 3 (Option.some .int)) ∈ zT := zT_t3 (List.mem_of_getElem? (i := 106) (by decide +kernel)) rfl
theorem wt_3_107 : (Cond.methodLink RJ0 505 yJ0_length_8abf5) ∈ zT := zT_t3 (List.mem_of_getElem? (i := 107) (by decide +kernel)) rfl
theorem wt_3_108 : (Cond.instanceMethod yJ0_length_8abf5) ∈ zT := zT_t3 (List.mem_of_getElem? (i := 108) (by decide +kernel)) rfl
theorem wt_3_109 : (Cond.selects RJ0 yJ0_length_8abf5 yJ0_length_8abf5) ∈ zT := zT_t3 (List.mem_of_getElem? (i := 109) (by decide +kernel)) rfl
theorem wt_3_110 : (Cond.code yJ0_length_8abf5 cJ0_length_8abf5 1 (Option.some .int)) ∈ zT := zT_t3 (List.mem_of_getElem? (i := 110) (by decide +kernel)) rfl
theorem wt_3_111 : (Cond.methodLink RJ0 335 yJ0_coder_7d493) ∈ zT := zT_t3 (List.mem_of_getElem? (i := 111) (by decide +kernel)) rfl
theorem wt_3_112 : (Cond.instanceMethod yJ0_coder_7d493) ∈ zT := zT_t3 (List.mem_of_getElem? (i := 112) (by decide +kernel)) rfl
theorem wt_3_113 : (Cond.selects RJ0 yJ0_coder_7d493 yJ0_coder_7d493) ∈ zT := zT_t3 (List.mem_of_getElem? (i := 113) (by decide +kernel)) rfl
theorem wt_3_114 : (Cond.code yJ0_coder_7d493 cJ0_coder_7d493 1 (Option.some .byte)) ∈ zT := zT_t3 (List.mem_of_getElem? (i := 114) (by decide +kernel)) rfl
theorem wt_3_115 : (Cond.methodLink RJ0 637 yJ1_indexOf_4cfef) ∈ zT := zT_t3 (List.mem_of_getElem? (i := 115) (by decide +kernel)) rfl
theorem wt_3_116 : (Cond.static yJ1_indexOf_4cfef) ∈ zT := zT_t3 (List.mem_of_getElem? (i := 116) (by decide +kernel)) rfl
theorem wt_3_117 : (Cond.code yJ1_indexOf_4cfef cJ1_indexOf_4cfef 4 (Option.some .int)) ∈ zT := zT_t3 (List.mem_of_getElem? (i := 117) (by decide +kernel)) rfl
theorem wt_3_118 : (Cond.methodLink RJ1 88 yJ1_canEncode_9a6ad) ∈ zT := zT_t3 (List.mem_of_getElem? (i := 118) (by decide +kernel)) rfl
theorem wt_3_119 : (Cond.static yJ1_canEncode_9a6ad) ∈ zT := zT_t3 (List.mem_of_getElem? (i := 119) (by decide +kernel)) rfl
theorem wt_3_120 : (Cond.code yJ1_canEncode_9a6ad cJ1_canEncode_9a6ad 1 (Option.some .boolean)) ∈ zT := zT_t3 (List.mem_of_getElem? (i := 120) (by decide +kernel)) rfl
theorem wt_3_121 : (Cond.methodLink RJ1 92 yJ9_max_7cf53) ∈ zT := zT_t3 (List.mem_of_getElem? (i := 121) (by decide +kernel)) rfl
theorem wt_3_122 : (Cond.static yJ9_max_7cf53) ∈ zT := zT_t3 (List.mem_of_getElem? (i := 122) (by decide +kernel)) rfl
theorem wt_3_123 : (Cond.code yJ9_max_7cf53 cJ9_max_7cf53 2 (Option.some .int)) ∈ zT := zT_t3 (List.mem_of_getElem? (i := 123) (by decide +kernel)) rfl
theorem wt_3_124 : (Cond.methodLink RJ1 38 yJ9_min_7cf53) ∈ zT := zT_t3 (List.mem_of_getElem? (i := 124) (by decide +kernel)) rfl
theorem wt_3_125 : (Cond.static yJ9_min_7cf53) ∈ zT := zT_t3 (List.mem_of_getElem? (i := 125) (by decide +kernel)) rfl
theorem wt_3_126 : (Cond.code yJ9_min_7cf53 cJ9_min_7cf53 2 (Option.some .int)) ∈ zT := zT_t3 (List.mem_of_getElem? (i := 126) (by decide +kernel)) rfl
theorem wt_3_127 : (Cond.methodLink RJ1 95 yJ1_indexOfChar_4cfef) ∈ zT := zT_t3 (List.mem_of_getElem? (i := 127) (by decide +kernel)) rfl
theorem wt_3_128 : (Cond.static yJ1_indexOfChar_4cfef) ∈ zT := zT_t3 (List.mem_of_getElem? (i := 128) (by decide +kernel)) rfl
theorem wt_3_129 : (Cond.code yJ1_indexOfChar_4cfef cJ1_indexOfChar_4cfef 6 (Option.some .int)) ∈ zT := zT_t3 (List.mem_of_getElem? (i := 129) (by decide +kernel)) rfl
theorem wt_3_130 : (Cond.methodLink RJ0 640 yJ2_indexOf_4cfef) ∈ zT := zT_t3 (List.mem_of_getElem? (i := 130) (by decide +kernel)) rfl
theorem wt_3_131 : (Cond.static yJ2_indexOf_4cfef) ∈ zT := zT_t3 (List.mem_of_getElem? (i := 131) (by decide +kernel)) rfl
theorem wt_3_132 : (Cond.code yJ2_indexOf_4cfef cJ2_indexOf_4cfef 4 (Option.some .int)) ∈ zT := zT_t3 (List.mem_of_getElem? (i := 132) (by decide +kernel)) rfl
theorem wt_3_133 : (Cond.methodLink RJ2 224 yJ9_max_7cf53) ∈ zT := zT_t3 (List.mem_of_getElem? (i := 133) (by decide +kernel)) rfl
theorem wt_3_134 : (Cond.methodLink RJ2 183 yJ9_min_7cf53) ∈ zT := zT_t3 (List.mem_of_getElem? (i := 134) (by decide +kernel)) rfl
theorem wt_3_135 : (Cond.constant RJ2 227 (65536 : Int32)) ∈ zT := zT_t3 (List.mem_of_getElem? (i := 135) (by decide +kernel)) rfl
theorem wt_3_136 : (Cond.methodLink RJ2 228 yJ2_indexOfChar_4cfef) ∈ zT := zT_t3 (List.mem_of_getElem? (i := 136) (by decide +kernel)) rfl
theorem wt_3_137 : (Cond.static yJ2_indexOfChar_4cfef) ∈ zT := zT_t3 (List.mem_of_getElem? (i := 137) (by decide +kernel)) rfl
theorem wt_3_138 : (Cond.code yJ2_indexOfChar_4cfef cJ2_indexOfChar_4cfef 4 (Option.some .int)) ∈ zT := zT_t3 (List.mem_of_getElem? (i := 138) (by decide +kernel)) rfl
theorem wt_3_139 : (Cond.methodLink RJ2 96 yJ2_checkBoundsBeginEnd_d044e) ∈ zT := zT_t3 (List.mem_of_getElem? (i := 139) (by decide +kernel)) rfl
theorem wt_3_140 : (Cond.static yJ2_checkBoundsBeginEnd_d044e) ∈ zT := zT_t3 (List.mem_of_getElem? (i := 140) (by decide +kernel)) rfl
theorem wt_3_141 : (Cond.code yJ2_checkBoundsBeginEnd_d044e cJ2_checkBoundsBeginEnd_d044e 3 none) ∈ zT := zT_t3 (List.mem_of_getElem? (i := 141) (by decide +kernel)) rfl
theorem wt_3_142 : (Cond.methodLink RJ2 241 yJ0_checkBoundsBeginEnd_23922) ∈ zT := zT_t3 (List.mem_of_getElem? (i := 142) (by decide +kernel)) rfl
theorem wt_3_143 : (Cond.static yJ0_checkBoundsBeginEnd_23922) ∈ zT := zT_t3 (List.mem_of_getElem? (i := 143) (by decide +kernel)) rfl
theorem wt_3_144 : (Cond.code yJ0_checkBoundsBeginEnd_23922 cJ0_checkBoundsBeginEnd_23922 3 none) ∈ zT := zT_t3 (List.mem_of_getElem? (i := 144) (by decide +kernel)) rfl
theorem wt_3_145 : (Cond.methodLink RJ0 1062 yJ3_checkFromToIndex_8c36e) ∈ zT := zT_t3 (List.mem_of_getElem? (i := 145) (by decide +kernel)) rfl
theorem wt_3_146 : (Cond.static yJ3_checkFromToIndex_8c36e) ∈ zT := zT_t3 (List.mem_of_getElem? (i := 146) (by decide +kernel)) rfl
theorem wt_3_147 : (Cond.code yJ3_checkFromToIndex_8c36e cJ3_checkFromToIndex_8c36e 4 (Option.some .int)) ∈ zT := zT_t3 (List.mem_of_getElem? (i := 147) (by decide +kernel)) rfl
theorem wt_3_148 : (Cond.methodLink RJ2 244 yJ2_indexOfCharUnsafe_4cfef) ∈ zT := zT_t3 (List.mem_of_getElem? (i := 148) (by decide +kernel)) rfl
theorem wt_3_149 : (Cond.static yJ2_indexOfCharUnsafe_4cfef) ∈ zT := zT_t3 (List.mem_of_getElem? (i := 149) (by decide +kernel)) rfl
theorem wt_3_150 : (Cond.code yJ2_indexOfCharUnsafe_4cfef cJ2_indexOfCharUnsafe_4cfef 5 (Option.some .int)) ∈ zT := zT_t3 (List.mem_of_getElem? (i := 150) (by decide +kernel)) rfl
theorem wt_3_151 : (Cond.methodLink RJ2 232 yJ2_indexOfSupplementary_4cfef) ∈ zT := zT_t3 (List.mem_of_getElem? (i := 151) (by decide +kernel)) rfl
theorem wt_3_152 : (Cond.static yJ2_indexOfSupplementary_4cfef) ∈ zT := zT_t3 (List.mem_of_getElem? (i := 152) (by decide +kernel)) rfl
theorem wt_3_153 : (Cond.code yJ2_indexOfSupplementary_4cfef cJ2_indexOfSupplementary_4cfef 7 (Option.some .int)) ∈ zT := zT_t3 (List.mem_of_getElem? (i := 153) (by decide +kernel)) rfl
theorem wt_3_154 : (Cond.methodLink RJ2 164 yJ11_isValidCodePoint_9a6ad) ∈ zT := zT_t3 (List.mem_of_getElem? (i := 154) (by decide +kernel)) rfl
theorem wt_3_155 : (Cond.static yJ11_isValidCodePoint_9a6ad) ∈ zT := zT_t3 (List.mem_of_getElem? (i := 155) (by decide +kernel)) rfl
theorem wt_3_156 : (Cond.code yJ11_isValidCodePoint_9a6ad cJ11_isValidCodePoint_9a6ad 2 (Option.some .boolean)) ∈ zT := zT_t3 (List.mem_of_getElem? (i := 156) (by decide +kernel)) rfl
theorem wt_3_157 : (Cond.methodLink RJ2 157 yJ11_highSurrogate_5068e) ∈ zT := zT_t3 (List.mem_of_getElem? (i := 157) (by decide +kernel)) rfl
theorem wt_3_158 : (Cond.static yJ11_highSurrogate_5068e) ∈ zT := zT_t3 (List.mem_of_getElem? (i := 158) (by decide +kernel)) rfl
theorem wt_3_159 : (Cond.code yJ11_highSurrogate_5068e cJ11_highSurrogate_5068e 1 (Option.some .char)) ∈ zT := zT_t3 (List.mem_of_getElem? (i := 159) (by decide +kernel)) rfl
theorem wt_3_160 : (Cond.constant RJ11 110 (55232 : Int32)) ∈ zT := zT_t3 (List.mem_of_getElem? (i := 160) (by decide +kernel)) rfl
theorem wt_3_161 : (Cond.methodLink RJ2 161 yJ11_lowSurrogate_5068e) ∈ zT := zT_t3 (List.mem_of_getElem? (i := 161) (by decide +kernel)) rfl
theorem wt_3_162 : (Cond.static yJ11_lowSurrogate_5068e) ∈ zT := zT_t3 (List.mem_of_getElem? (i := 162) (by decide +kernel)) rfl
theorem wt_3_163 : (Cond.code yJ11_lowSurrogate_5068e cJ11_lowSurrogate_5068e 1 (Option.some .char)) ∈ zT := zT_t3 (List.mem_of_getElem? (i := 163) (by decide +kernel)) rfl
theorem wt_3_164 : (Cond.constant RJ11 76 (56320 : Int32)) ∈ zT := zT_t3 (List.mem_of_getElem? (i := 164) (by decide +kernel)) rfl
theorem wt_3_165 : (Cond.methodLink RX7 43 yX7_judge) ∈ zT := zT_t3 (List.mem_of_getElem? (i := 165) (by decide +kernel)) rfl
theorem wt_3_167 : (Cond.instanceMethod yX7_judge) ∈ zT := zT_t3 (List.mem_of_getElem? (i := 167) (by decide +kernel)) rfl
theorem wt_3_168 : (Cond.code yX7_judge cX7_judge 1 (Option.some .int)) ∈ zT := zT_t3 (List.mem_of_getElem? (i := 168) (by decide +kernel)) rfl
theorem wt_3_169 : (Cond.methodLink RX7 117 yX7_judgeLine) ∈ zT := zT_t3 (List.mem_of_getElem? (i := 169) (by decide +kernel)) rfl
theorem wt_3_171 : (Cond.instanceMethod yX7_judgeLine) ∈ zT := zT_t3 (List.mem_of_getElem? (i := 171) (by decide +kernel)) rfl
theorem wt_3_172 : (Cond.code yX7_judgeLine cX7_judgeLine 1 (Option.some .int)) ∈ zT := zT_t3 (List.mem_of_getElem? (i := 172) (by decide +kernel)) rfl
theorem wt_3_173 : (Cond.methodLink RX7 120 yX7_judgeCondition) ∈ zT := zT_t3 (List.mem_of_getElem? (i := 173) (by decide +kernel)) rfl
theorem wt_3_175 : (Cond.instanceMethod yX7_judgeCondition) ∈ zT := zT_t3 (List.mem_of_getElem? (i := 175) (by decide +kernel)) rfl
theorem wt_3_176 : (Cond.code yX7_judgeCondition cX7_judgeCondition 1 (Option.some .int)) ∈ zT := zT_t3 (List.mem_of_getElem? (i := 176) (by decide +kernel)) rfl
theorem wt_3_177 : (Cond.methodLink RX7 123 yX7_judgeOperand) ∈ zT := zT_t3 (List.mem_of_getElem? (i := 177) (by decide +kernel)) rfl
theorem wt_3_179 : (Cond.instanceMethod yX7_judgeOperand) ∈ zT := zT_t3 (List.mem_of_getElem? (i := 179) (by decide +kernel)) rfl
theorem wt_3_180 : (Cond.code yX7_judgeOperand cX7_judgeOperand 1 (Option.some .int)) ∈ zT := zT_t3 (List.mem_of_getElem? (i := 180) (by decide +kernel)) rfl
theorem wt_3_181 : (Cond.methodLink RX7 142 yX7_emit) ∈ zT := zT_t3 (List.mem_of_getElem? (i := 181) (by decide +kernel)) rfl
theorem wt_3_183 : (Cond.instanceMethod yX7_emit) ∈ zT := zT_t3 (List.mem_of_getElem? (i := 183) (by decide +kernel)) rfl
theorem wt_3_184 : (Cond.code yX7_emit cX7_emit 2 none) ∈ zT := zT_t3 (List.mem_of_getElem? (i := 184) (by decide +kernel)) rfl
theorem wt_3_185 : (Cond.methodLink RX7 151 yX7_push) ∈ zT := zT_t3 (List.mem_of_getElem? (i := 185) (by decide +kernel)) rfl
theorem wt_3_187 : (Cond.instanceMethod yX7_push) ∈ zT := zT_t3 (List.mem_of_getElem? (i := 187) (by decide +kernel)) rfl
theorem wt_3_188 : (Cond.code yX7_push cX7_push 2 none) ∈ zT := zT_t3 (List.mem_of_getElem? (i := 188) (by decide +kernel)) rfl
theorem wt_3_189 : (Cond.methodLink RX7 126 yX7_judgeDivisor) ∈ zT := zT_t3 (List.mem_of_getElem? (i := 189) (by decide +kernel)) rfl
theorem wt_3_191 : (Cond.instanceMethod yX7_judgeDivisor) ∈ zT := zT_t3 (List.mem_of_getElem? (i := 191) (by decide +kernel)) rfl
theorem wt_3_192 : (Cond.code yX7_judgeDivisor cX7_judgeDivisor 1 (Option.some .int)) ∈ zT := zT_t3 (List.mem_of_getElem? (i := 192) (by decide +kernel)) rfl
theorem wt_3_193 : (Cond.methodLink RX7 129 yX7_judgeAfterCondition) ∈ zT := zT_t3 (List.mem_of_getElem? (i := 193) (by decide +kernel)) rfl
theorem wt_3_195 : (Cond.instanceMethod yX7_judgeAfterCondition) ∈ zT := zT_t3 (List.mem_of_getElem? (i := 195) (by decide +kernel)) rfl
theorem wt_3_196 : (Cond.code yX7_judgeAfterCondition cX7_judgeAfterCondition 1 (Option.some .int)) ∈ zT := zT_t3 (List.mem_of_getElem? (i := 196) (by decide +kernel)) rfl
theorem wt_3_197 : (Cond.methodLink RX7 132 yX7_takeOperator) ∈ zT := zT_t3 (List.mem_of_getElem? (i := 197) (by decide +kernel)) rfl
theorem wt_3_199 : (Cond.instanceMethod yX7_takeOperator) ∈ zT := zT_t3 (List.mem_of_getElem? (i := 199) (by decide +kernel)) rfl
theorem wt_3_200 : (Cond.code yX7_takeOperator cX7_takeOperator 2 none) ∈ zT := zT_t3 (List.mem_of_getElem? (i := 200) (by decide +kernel)) rfl
theorem wt_3_201 : (Cond.methodLink RX7 163 yX7_bindingOf) ∈ zT := zT_t3 (List.mem_of_getElem? (i := 201) (by decide +kernel)) rfl
theorem wt_3_202 : (Cond.static yX7_bindingOf) ∈ zT := zT_t3 (List.mem_of_getElem? (i := 202) (by decide +kernel)) rfl
theorem wt_3_203 : (Cond.code yX7_bindingOf cX7_bindingOf 1 (Option.some .int)) ∈ zT := zT_t3 (List.mem_of_getElem? (i := 203) (by decide +kernel)) rfl
theorem wt_3_204 : (Cond.methodLink RX7 145 yX7_emitWaiting) ∈ zT := zT_t3 (List.mem_of_getElem? (i := 204) (by decide +kernel)) rfl
theorem wt_3_206 : (Cond.instanceMethod yX7_emitWaiting) ∈ zT := zT_t3 (List.mem_of_getElem? (i := 206) (by decide +kernel)) rfl
theorem wt_3_207 : (Cond.code yX7_emitWaiting cX7_emitWaiting 2 none) ∈ zT := zT_t3 (List.mem_of_getElem? (i := 207) (by decide +kernel)) rfl
theorem wt_3_208 : (Cond.methodLink RX7 154 yX7_closeBracket) ∈ zT := zT_t3 (List.mem_of_getElem? (i := 208) (by decide +kernel)) rfl
theorem wt_3_210 : (Cond.instanceMethod yX7_closeBracket) ∈ zT := zT_t3 (List.mem_of_getElem? (i := 210) (by decide +kernel)) rfl
theorem wt_3_211 : (Cond.code yX7_closeBracket cX7_closeBracket 1 none) ∈ zT := zT_t3 (List.mem_of_getElem? (i := 211) (by decide +kernel)) rfl
theorem wt_3_212 : (Cond.methodLink RX7 157 yJ9_max_7cf53) ∈ zT := zT_t3 (List.mem_of_getElem? (i := 212) (by decide +kernel)) rfl
theorem wt_3_213 : (Cond.methodLink RX7 148 yX7_endLine) ∈ zT := zT_t3 (List.mem_of_getElem? (i := 213) (by decide +kernel)) rfl
theorem wt_3_215 : (Cond.instanceMethod yX7_endLine) ∈ zT := zT_t3 (List.mem_of_getElem? (i := 215) (by decide +kernel)) rfl
theorem wt_3_216 : (Cond.code yX7_endLine cX7_endLine 2 (Option.some .int)) ∈ zT := zT_t3 (List.mem_of_getElem? (i := 216) (by decide +kernel)) rfl
theorem wt_3_217 : (Cond.methodLink RX7 136 yX7_judgeAfterWorth) ∈ zT := zT_t3 (List.mem_of_getElem? (i := 217) (by decide +kernel)) rfl
theorem wt_3_219 : (Cond.instanceMethod yX7_judgeAfterWorth) ∈ zT := zT_t3 (List.mem_of_getElem? (i := 219) (by decide +kernel)) rfl
theorem wt_3_220 : (Cond.code yX7_judgeAfterWorth cX7_judgeAfterWorth 1 (Option.some .int)) ∈ zT := zT_t3 (List.mem_of_getElem? (i := 220) (by decide +kernel)) rfl
theorem wt_3_221 : (Cond.methodLink RX7 139 yX7_judgeComparison) ∈ zT := zT_t3 (List.mem_of_getElem? (i := 221) (by decide +kernel)) rfl
theorem wt_3_223 : (Cond.instanceMethod yX7_judgeComparison) ∈ zT := zT_t3 (List.mem_of_getElem? (i := 223) (by decide +kernel)) rfl
theorem wt_3_224 : (Cond.code yX7_judgeComparison cX7_judgeComparison 1 (Option.some .int)) ∈ zT := zT_t3 (List.mem_of_getElem? (i := 224) (by decide +kernel)) rfl
theorem wt_3_225 : (Cond.methodLink RX11 128 yX6_take) ∈ zT := zT_t3 (List.mem_of_getElem? (i := 225) (by decide +kernel)) rfl
theorem wt_3_226 : (Cond.instanceMethod yX6_take) ∈ zT := zT_t3 (List.mem_of_getElem? (i := 226) (by decide +kernel)) rfl
theorem wt_3_227 : (Cond.selects RX6 yX6_take yX6_take) ∈ zT := zT_t3 (List.mem_of_getElem? (i := 227) (by decide +kernel)) rfl
theorem wt_3_228 : (Cond.code yX6_take cX6_take 4 none) ∈ zT := zT_t3 (List.mem_of_getElem? (i := 228) (by decide +kernel)) rfl
theorem wt_3_229 : (Cond.methodLink RX6 15 arraycopyName) ∈ zT := zT_t3 (List.mem_of_getElem? (i := 229) (by decide +kernel)) rfl
theorem wt_3_230 : (Cond.static arraycopyName) ∈ zT := zT_t3 (List.mem_of_getElem? (i := 230) (by decide +kernel)) rfl
theorem wt_3_231 : (Cond.native arraycopyName) ∈ zT := zT_t3 (List.mem_of_getElem? (i := 231) (by decide +kernel)) rfl
theorem wt_3_232 : (Cond.arrayClass .byte) ∈ zT := zT_t3 (List.mem_of_getElem? (i := 232) (by decide +kernel)) rfl
theorem wt_3_233 : (Cond.methodLink RL 47 yX11_fault) ∈ zT := zT_t3 (List.mem_of_getElem? (i := 233) (by decide +kernel)) rfl
theorem wt_3_234 : (Cond.instanceMethod yX11_fault) ∈ zT := zT_t3 (List.mem_of_getElem? (i := 234) (by decide +kernel)) rfl
theorem wt_3_235 : (Cond.selects RX11 yX11_fault yX11_fault) ∈ zT := zT_t3 (List.mem_of_getElem? (i := 235) (by decide +kernel)) rfl
theorem wt_3_236 : (Cond.code yX11_fault cX11_fault 2 (Option.some .int)) ∈ zT := zT_t3 (List.mem_of_getElem? (i := 236) (by decide +kernel)) rfl
theorem wt_3_237 : (Cond.methodLink RL 51 yX11_order) ∈ zT := zT_t3 (List.mem_of_getElem? (i := 237) (by decide +kernel)) rfl
theorem wt_3_238 : (Cond.instanceMethod yX11_order) ∈ zT := zT_t3 (List.mem_of_getElem? (i := 238) (by decide +kernel)) rfl
theorem wt_3_239 : (Cond.selects RX11 yX11_order yX11_order) ∈ zT := zT_t3 (List.mem_of_getElem? (i := 239) (by decide +kernel)) rfl
theorem wt_4_0 : (Cond.code yX11_order cX11_order 2 (Option.some .int)) ∈ zT := zT_t4 (List.mem_of_getElem? (i := 0) (by decide +kernel)) rfl
theorem wt_4_1 : (Cond.methodLink RX11 141 yX4_standForToday) ∈ zT := zT_t4 (List.mem_of_getElem? (i := 1) (by decide +kernel)) rfl
theorem wt_4_2 : (Cond.instanceMethod yX4_standForToday) ∈ zT := zT_t4 (List.mem_of_getElem? (i := 2) (by decide +kernel)) rfl
theorem wt_4_3 : (Cond.selects RX4 yX4_standForToday yX4_standForToday) ∈ zT := zT_t4 (List.mem_of_getElem? (i := 3) (by decide +kernel)) rfl
theorem wt_4_4 : (Cond.code yX4_standForToday cX4_standForToday 1 none) ∈ zT := zT_t4 (List.mem_of_getElem? (i := 4) (by decide +kernel)) rfl
theorem wt_4_5 : (Cond.methodLink RX4 45 yX4_standByRule) ∈ zT := zT_t4 (List.mem_of_getElem? (i := 5) (by decide +kernel)) rfl
theorem wt_4_7 : (Cond.instanceMethod yX4_standByRule) ∈ zT := zT_t4 (List.mem_of_getElem? (i := 7) (by decide +kernel)) rfl
theorem wt_4_8 : (Cond.code yX4_standByRule cX4_standByRule 3 none) ∈ zT := zT_t4 (List.mem_of_getElem? (i := 8) (by decide +kernel)) rfl
theorem wt_4_9 : (Cond.methodLink RX4 93 yX4_gatherFacts) ∈ zT := zT_t4 (List.mem_of_getElem? (i := 9) (by decide +kernel)) rfl
theorem wt_4_11 : (Cond.instanceMethod yX4_gatherFacts) ∈ zT := zT_t4 (List.mem_of_getElem? (i := 11) (by decide +kernel)) rfl
theorem wt_4_12 : (Cond.code yX4_gatherFacts cX4_gatherFacts 2 none) ∈ zT := zT_t4 (List.mem_of_getElem? (i := 12) (by decide +kernel)) rfl
theorem wt_4_13 : (Cond.methodLink RX4 100 yX6_worth) ∈ zT := zT_t4 (List.mem_of_getElem? (i := 13) (by decide +kernel)) rfl
theorem wt_4_14 : (Cond.instanceMethod yX6_worth) ∈ zT := zT_t4 (List.mem_of_getElem? (i := 14) (by decide +kernel)) rfl
theorem wt_4_15 : (Cond.selects RX6 yX6_worth yX6_worth) ∈ zT := zT_t4 (List.mem_of_getElem? (i := 15) (by decide +kernel)) rfl
theorem wt_4_16 : (Cond.code yX6_worth cX6_worth 6 (Option.some .int)) ∈ zT := zT_t4 (List.mem_of_getElem? (i := 16) (by decide +kernel)) rfl
theorem wt_4_17 : (Cond.methodLink RX6 28 yX6_valueOf) ∈ zT := zT_t4 (List.mem_of_getElem? (i := 17) (by decide +kernel)) rfl
theorem wt_4_18 : (Cond.static yX6_valueOf) ∈ zT := zT_t4 (List.mem_of_getElem? (i := 18) (by decide +kernel)) rfl
theorem wt_4_19 : (Cond.code yX6_valueOf cX6_valueOf 3 (Option.some .int)) ∈ zT := zT_t4 (List.mem_of_getElem? (i := 19) (by decide +kernel)) rfl
theorem wt_4_20 : (Cond.methodLink RX6 32 yX6_apply) ∈ zT := zT_t4 (List.mem_of_getElem? (i := 20) (by decide +kernel)) rfl
theorem wt_4_21 : (Cond.static yX6_apply) ∈ zT := zT_t4 (List.mem_of_getElem? (i := 21) (by decide +kernel)) rfl
theorem wt_4_22 : (Cond.code yX6_apply cX6_apply 3 (Option.some .int)) ∈ zT := zT_t4 (List.mem_of_getElem? (i := 22) (by decide +kernel)) rfl
theorem wt_4_23 : (Cond.methodLink RX4 54 yX10_isMonday) ∈ zT := zT_t4 (List.mem_of_getElem? (i := 23) (by decide +kernel)) rfl
theorem wt_4_24 : (Cond.instanceMethod yX10_isMonday) ∈ zT := zT_t4 (List.mem_of_getElem? (i := 24) (by decide +kernel)) rfl
theorem wt_4_25 : (Cond.selects RX10 yX10_isMonday yX10_isMonday) ∈ zT := zT_t4 (List.mem_of_getElem? (i := 25) (by decide +kernel)) rfl
theorem wt_4_26 : (Cond.code yX10_isMonday cX10_isMonday 1 (Option.some .boolean)) ∈ zT := zT_t4 (List.mem_of_getElem? (i := 26) (by decide +kernel)) rfl
theorem wt_4_27 : (Cond.methodLink RX4 60 yX4_fewestMondays) ∈ zT := zT_t4 (List.mem_of_getElem? (i := 27) (by decide +kernel)) rfl
theorem wt_4_29 : (Cond.instanceMethod yX4_fewestMondays) ∈ zT := zT_t4 (List.mem_of_getElem? (i := 29) (by decide +kernel)) rfl
theorem wt_4_30 : (Cond.code yX4_fewestMondays cX4_fewestMondays 3 (Option.some .int)) ∈ zT := zT_t4 (List.mem_of_getElem? (i := 30) (by decide +kernel)) rfl
theorem wt_4_31 : (Cond.methodLink RX4 64 yX4_putFirst) ∈ zT := zT_t4 (List.mem_of_getElem? (i := 31) (by decide +kernel)) rfl
theorem wt_4_33 : (Cond.instanceMethod yX4_putFirst) ∈ zT := zT_t4 (List.mem_of_getElem? (i := 33) (by decide +kernel)) rfl
theorem wt_4_34 : (Cond.code yX4_putFirst cX4_putFirst 4 none) ∈ zT := zT_t4 (List.mem_of_getElem? (i := 34) (by decide +kernel)) rfl
theorem wt_4_35 : (Cond.methodLink RL 55 yX11_days) ∈ zT := zT_t4 (List.mem_of_getElem? (i := 35) (by decide +kernel)) rfl
theorem wt_4_36 : (Cond.instanceMethod yX11_days) ∈ zT := zT_t4 (List.mem_of_getElem? (i := 36) (by decide +kernel)) rfl
theorem wt_4_37 : (Cond.selects RX11 yX11_days yX11_days) ∈ zT := zT_t4 (List.mem_of_getElem? (i := 37) (by decide +kernel)) rfl
theorem wt_4_38 : (Cond.code yX11_days cX11_days 4 (Option.some .int)) ∈ zT := zT_t4 (List.mem_of_getElem? (i := 38) (by decide +kernel)) rfl
theorem wt_4_39 : (Cond.methodLink RX11 150 yX1_keep) ∈ zT := zT_t4 (List.mem_of_getElem? (i := 39) (by decide +kernel)) rfl
theorem wt_4_40 : (Cond.instanceMethod yX1_keep) ∈ zT := zT_t4 (List.mem_of_getElem? (i := 40) (by decide +kernel)) rfl
theorem wt_4_41 : (Cond.selects RX1 yX1_keep yX1_keep) ∈ zT := zT_t4 (List.mem_of_getElem? (i := 41) (by decide +kernel)) rfl
theorem wt_4_42 : (Cond.code yX1_keep cX1_keep 2 none) ∈ zT := zT_t4 (List.mem_of_getElem? (i := 42) (by decide +kernel)) rfl
theorem wt_4_43 : (Cond.methodLink RX1 25 yX10_copyFrom) ∈ zT := zT_t4 (List.mem_of_getElem? (i := 43) (by decide +kernel)) rfl
theorem wt_4_44 : (Cond.instanceMethod yX10_copyFrom) ∈ zT := zT_t4 (List.mem_of_getElem? (i := 44) (by decide +kernel)) rfl
theorem wt_4_45 : (Cond.selects RX10 yX10_copyFrom yX10_copyFrom) ∈ zT := zT_t4 (List.mem_of_getElem? (i := 45) (by decide +kernel)) rfl
theorem wt_4_46 : (Cond.code yX10_copyFrom cX10_copyFrom 2 none) ∈ zT := zT_t4 (List.mem_of_getElem? (i := 46) (by decide +kernel)) rfl
theorem wt_4_47 : (Cond.methodLink RX10 48 arraycopyName) ∈ zT := zT_t4 (List.mem_of_getElem? (i := 47) (by decide +kernel)) rfl
theorem wt_4_48 : (Cond.methodLink RX11 154 yX4_passDay) ∈ zT := zT_t4 (List.mem_of_getElem? (i := 48) (by decide +kernel)) rfl
theorem wt_4_49 : (Cond.instanceMethod yX4_passDay) ∈ zT := zT_t4 (List.mem_of_getElem? (i := 49) (by decide +kernel)) rfl
theorem wt_4_50 : (Cond.selects RX4 yX4_passDay yX4_passDay) ∈ zT := zT_t4 (List.mem_of_getElem? (i := 50) (by decide +kernel)) rfl
theorem wt_4_51 : (Cond.code yX4_passDay cX4_passDay 5 (Option.some .boolean)) ∈ zT := zT_t4 (List.mem_of_getElem? (i := 51) (by decide +kernel)) rfl
theorem wt_4_52 : (Cond.methodLink RX4 135 yX4_standForToday) ∈ zT := zT_t4 (List.mem_of_getElem? (i := 52) (by decide +kernel)) rfl
theorem wt_4_53 : (Cond.methodLink RX4 138 yX4_weighLoaves) ∈ zT := zT_t4 (List.mem_of_getElem? (i := 53) (by decide +kernel)) rfl
theorem wt_4_55 : (Cond.instanceMethod yX4_weighLoaves) ∈ zT := zT_t4 (List.mem_of_getElem? (i := 55) (by decide +kernel)) rfl
theorem wt_4_56 : (Cond.code yX4_weighLoaves cX4_weighLoaves 2 none) ∈ zT := zT_t4 (List.mem_of_getElem? (i := 56) (by decide +kernel)) rfl
theorem wt_4_57 : (Cond.methodLink RX4 180 yJ9_min_7cf53) ∈ zT := zT_t4 (List.mem_of_getElem? (i := 57) (by decide +kernel)) rfl
theorem wt_4_58 : (Cond.methodLink RX4 141 yX4_drawBurntPlace) ∈ zT := zT_t4 (List.mem_of_getElem? (i := 58) (by decide +kernel)) rfl
theorem wt_4_60 : (Cond.instanceMethod yX4_drawBurntPlace) ∈ zT := zT_t4 (List.mem_of_getElem? (i := 60) (by decide +kernel)) rfl
theorem wt_4_61 : (Cond.code yX4_drawBurntPlace cX4_drawBurntPlace 2 (Option.some .int)) ∈ zT := zT_t4 (List.mem_of_getElem? (i := 61) (by decide +kernel)) rfl
theorem wt_4_62 : (Cond.methodLink RX4 166 yX10_draw) ∈ zT := zT_t4 (List.mem_of_getElem? (i := 62) (by decide +kernel)) rfl
theorem wt_4_63 : (Cond.instanceMethod yX10_draw) ∈ zT := zT_t4 (List.mem_of_getElem? (i := 63) (by decide +kernel)) rfl
theorem wt_4_64 : (Cond.selects RX10 yX10_draw yX10_draw) ∈ zT := zT_t4 (List.mem_of_getElem? (i := 64) (by decide +kernel)) rfl
theorem wt_4_65 : (Cond.code yX10_draw cX10_draw 2 (Option.some .int)) ∈ zT := zT_t4 (List.mem_of_getElem? (i := 65) (by decide +kernel)) rfl
theorem wt_4_66 : (Cond.constant RX10 37 (1664525 : Int32)) ∈ zT := zT_t4 (List.mem_of_getElem? (i := 66) (by decide +kernel)) rfl
theorem wt_4_67 : (Cond.constant RX10 41 (1013904223 : Int32)) ∈ zT := zT_t4 (List.mem_of_getElem? (i := 67) (by decide +kernel)) rfl
theorem wt_4_68 : (Cond.methodLink RX4 144 yX4_bake) ∈ zT := zT_t4 (List.mem_of_getElem? (i := 68) (by decide +kernel)) rfl
theorem wt_4_70 : (Cond.instanceMethod yX4_bake) ∈ zT := zT_t4 (List.mem_of_getElem? (i := 70) (by decide +kernel)) rfl
theorem wt_4_71 : (Cond.code yX4_bake cX4_bake 6 none) ∈ zT := zT_t4 (List.mem_of_getElem? (i := 71) (by decide +kernel)) rfl
theorem wt_4_72 : (Cond.methodLink RX4 170 yX4_woodOf) ∈ zT := zT_t4 (List.mem_of_getElem? (i := 72) (by decide +kernel)) rfl
theorem wt_4_74 : (Cond.instanceMethod yX4_woodOf) ∈ zT := zT_t4 (List.mem_of_getElem? (i := 74) (by decide +kernel)) rfl
theorem wt_4_75 : (Cond.code yX4_woodOf cX4_woodOf 5 (Option.some .int)) ∈ zT := zT_t4 (List.mem_of_getElem? (i := 75) (by decide +kernel)) rfl
theorem wt_4_76 : (Cond.methodLink RX4 174 yX4_heatAfter) ∈ zT := zT_t4 (List.mem_of_getElem? (i := 76) (by decide +kernel)) rfl
theorem wt_4_78 : (Cond.instanceMethod yX4_heatAfter) ∈ zT := zT_t4 (List.mem_of_getElem? (i := 78) (by decide +kernel)) rfl
theorem wt_4_79 : (Cond.code yX4_heatAfter cX4_heatAfter 4 (Option.some .int)) ∈ zT := zT_t4 (List.mem_of_getElem? (i := 79) (by decide +kernel)) rfl
theorem wt_4_80 : (Cond.methodLink RX4 188 yJ9_max_7cf53) ∈ zT := zT_t4 (List.mem_of_getElem? (i := 80) (by decide +kernel)) rfl
theorem wt_4_81 : (Cond.methodLink RX4 151 arraycopyName) ∈ zT := zT_t4 (List.mem_of_getElem? (i := 81) (by decide +kernel)) rfl
theorem wt_4_82 : (Cond.methodLink RL 59 yX11_of) ∈ zT := zT_t4 (List.mem_of_getElem? (i := 82) (by decide +kernel)) rfl
theorem wt_4_83 : (Cond.instanceMethod yX11_of) ∈ zT := zT_t4 (List.mem_of_getElem? (i := 83) (by decide +kernel)) rfl
theorem wt_4_84 : (Cond.selects RX11 yX11_of yX11_of) ∈ zT := zT_t4 (List.mem_of_getElem? (i := 84) (by decide +kernel)) rfl
theorem wt_4_85 : (Cond.code yX11_of cX11_of 4 (Option.some .int)) ∈ zT := zT_t4 (List.mem_of_getElem? (i := 85) (by decide +kernel)) rfl
theorem wt_4_86 : (Cond.constant RX11 157 (-1000000000 : Int32)) ∈ zT := zT_t4 (List.mem_of_getElem? (i := 86) (by decide +kernel)) rfl
theorem wt_4_87 : (Cond.methodLink RX11 188 yX2_letterOf) ∈ zT := zT_t4 (List.mem_of_getElem? (i := 87) (by decide +kernel)) rfl
theorem wt_4_88 : (Cond.instanceMethod yX2_letterOf) ∈ zT := zT_t4 (List.mem_of_getElem? (i := 88) (by decide +kernel)) rfl
theorem wt_4_89 : (Cond.selects RX2 yX2_letterOf yX2_letterOf) ∈ zT := zT_t4 (List.mem_of_getElem? (i := 89) (by decide +kernel)) rfl
theorem wt_4_90 : (Cond.code yX2_letterOf cX2_letterOf 3 (Option.some .int)) ∈ zT := zT_t4 (List.mem_of_getElem? (i := 90) (by decide +kernel)) rfl
theorem wt_4_91 : (Cond.methodLink RL 64 yX11_book) ∈ zT := zT_t4 (List.mem_of_getElem? (i := 91) (by decide +kernel)) rfl
theorem wt_4_92 : (Cond.instanceMethod yX11_book) ∈ zT := zT_t4 (List.mem_of_getElem? (i := 92) (by decide +kernel)) rfl
theorem wt_4_93 : (Cond.selects RX11 yX11_book yX11_book) ∈ zT := zT_t4 (List.mem_of_getElem? (i := 93) (by decide +kernel)) rfl
theorem wt_4_94 : (Cond.code yX11_book cX11_book 2 (Option.some .int)) ∈ zT := zT_t4 (List.mem_of_getElem? (i := 94) (by decide +kernel)) rfl
theorem wt_4_95 : (Cond.methodLink RL 68 yX11_gain) ∈ zT := zT_t4 (List.mem_of_getElem? (i := 95) (by decide +kernel)) rfl
theorem wt_4_96 : (Cond.instanceMethod yX11_gain) ∈ zT := zT_t4 (List.mem_of_getElem? (i := 96) (by decide +kernel)) rfl
theorem wt_4_97 : (Cond.selects RX11 yX11_gain yX11_gain) ∈ zT := zT_t4 (List.mem_of_getElem? (i := 97) (by decide +kernel)) rfl
theorem wt_4_98 : (Cond.code yX11_gain cX11_gain 3 (Option.some .int)) ∈ zT := zT_t4 (List.mem_of_getElem? (i := 98) (by decide +kernel)) rfl
theorem wt_4_99 : (Cond.methodLink RX11 201 yX4_standAsTold) ∈ zT := zT_t4 (List.mem_of_getElem? (i := 99) (by decide +kernel)) rfl
theorem wt_4_100 : (Cond.instanceMethod yX4_standAsTold) ∈ zT := zT_t4 (List.mem_of_getElem? (i := 100) (by decide +kernel)) rfl
theorem wt_4_101 : (Cond.selects RX4 yX4_standAsTold yX4_standAsTold) ∈ zT := zT_t4 (List.mem_of_getElem? (i := 101) (by decide +kernel)) rfl
theorem wt_4_102 : (Cond.code yX4_standAsTold cX4_standAsTold 4 (Option.some .boolean)) ∈ zT := zT_t4 (List.mem_of_getElem? (i := 102) (by decide +kernel)) rfl
theorem wt_4_103 : (Cond.methodLink RX4 83 yX4_clearPlaced) ∈ zT := zT_t4 (List.mem_of_getElem? (i := 103) (by decide +kernel)) rfl
theorem wt_4_105 : (Cond.instanceMethod yX4_clearPlaced) ∈ zT := zT_t4 (List.mem_of_getElem? (i := 105) (by decide +kernel)) rfl
theorem wt_4_106 : (Cond.code yX4_clearPlaced cX4_clearPlaced 2 none) ∈ zT := zT_t4 (List.mem_of_getElem? (i := 106) (by decide +kernel)) rfl
theorem wt_4_107 : (Cond.methodLink RX4 89 yX2_has) ∈ zT := zT_t4 (List.mem_of_getElem? (i := 107) (by decide +kernel)) rfl
theorem wt_4_108 : (Cond.methodLink RX11 205 yX4_gainOf) ∈ zT := zT_t4 (List.mem_of_getElem? (i := 108) (by decide +kernel)) rfl
theorem wt_4_109 : (Cond.instanceMethod yX4_gainOf) ∈ zT := zT_t4 (List.mem_of_getElem? (i := 109) (by decide +kernel)) rfl
theorem wt_4_110 : (Cond.selects RX4 yX4_gainOf yX4_gainOf) ∈ zT := zT_t4 (List.mem_of_getElem? (i := 110) (by decide +kernel)) rfl
theorem wt_4_111 : (Cond.code yX4_gainOf cX4_gainOf 4 (Option.some .int)) ∈ zT := zT_t4 (List.mem_of_getElem? (i := 111) (by decide +kernel)) rfl
theorem wt_4_112 : (Cond.methodLink RX4 191 yX4_gainAt) ∈ zT := zT_t4 (List.mem_of_getElem? (i := 112) (by decide +kernel)) rfl
theorem wt_4_114 : (Cond.instanceMethod yX4_gainAt) ∈ zT := zT_t4 (List.mem_of_getElem? (i := 114) (by decide +kernel)) rfl
theorem wt_4_115 : (Cond.code yX4_gainAt cX4_gainAt 7 (Option.some .int)) ∈ zT := zT_t4 (List.mem_of_getElem? (i := 115) (by decide +kernel)) rfl
theorem wt_4_116 : (Cond.constant RX4 195 (-1000000000 : Int32)) ∈ zT := zT_t4 (List.mem_of_getElem? (i := 116) (by decide +kernel)) rfl
theorem wt_4_117 : (Cond.methodLink RL 72 yX11_orders) ∈ zT := zT_t4 (List.mem_of_getElem? (i := 117) (by decide +kernel)) rfl
theorem wt_4_118 : (Cond.instanceMethod yX11_orders) ∈ zT := zT_t4 (List.mem_of_getElem? (i := 118) (by decide +kernel)) rfl
theorem wt_4_119 : (Cond.selects RX11 yX11_orders yX11_orders) ∈ zT := zT_t4 (List.mem_of_getElem? (i := 119) (by decide +kernel)) rfl
theorem wt_4_120 : (Cond.code yX11_orders cX11_orders 2 (Option.some .int)) ∈ zT := zT_t4 (List.mem_of_getElem? (i := 120) (by decide +kernel)) rfl
theorem wt_4_121 : (Cond.methodLink RX11 209 yX11_canSearch) ∈ zT := zT_t4 (List.mem_of_getElem? (i := 121) (by decide +kernel)) rfl
theorem wt_4_123 : (Cond.instanceMethod yX11_canSearch) ∈ zT := zT_t4 (List.mem_of_getElem? (i := 123) (by decide +kernel)) rfl
theorem wt_4_124 : (Cond.code yX11_canSearch cX11_canSearch 2 (Option.some .boolean)) ∈ zT := zT_t4 (List.mem_of_getElem? (i := 124) (by decide +kernel)) rfl
theorem wt_4_125 : (Cond.methodLink RX11 212 yX4_findSettled) ∈ zT := zT_t4 (List.mem_of_getElem? (i := 125) (by decide +kernel)) rfl
theorem wt_4_126 : (Cond.instanceMethod yX4_findSettled) ∈ zT := zT_t4 (List.mem_of_getElem? (i := 126) (by decide +kernel)) rfl
theorem wt_4_127 : (Cond.selects RX4 yX4_findSettled yX4_findSettled) ∈ zT := zT_t4 (List.mem_of_getElem? (i := 127) (by decide +kernel)) rfl
theorem wt_4_128 : (Cond.code yX4_findSettled cX4_findSettled 1 none) ∈ zT := zT_t4 (List.mem_of_getElem? (i := 128) (by decide +kernel)) rfl
theorem wt_4_129 : (Cond.methodLink RX4 199 yX4_beginSearch) ∈ zT := zT_t4 (List.mem_of_getElem? (i := 129) (by decide +kernel)) rfl
theorem wt_4_131 : (Cond.instanceMethod yX4_beginSearch) ∈ zT := zT_t4 (List.mem_of_getElem? (i := 131) (by decide +kernel)) rfl
theorem wt_4_132 : (Cond.code yX4_beginSearch cX4_beginSearch 1 none) ∈ zT := zT_t4 (List.mem_of_getElem? (i := 132) (by decide +kernel)) rfl
theorem wt_4_133 : (Cond.methodLink RX4 202 yX4_searchSettled) ∈ zT := zT_t4 (List.mem_of_getElem? (i := 133) (by decide +kernel)) rfl
theorem wt_4_135 : (Cond.instanceMethod yX4_searchSettled) ∈ zT := zT_t4 (List.mem_of_getElem? (i := 135) (by decide +kernel)) rfl
theorem wt_4_136 : (Cond.code yX4_searchSettled cX4_searchSettled 4 none) ∈ zT := zT_t4 (List.mem_of_getElem? (i := 136) (by decide +kernel)) rfl
theorem wt_4_137 : (Cond.methodLink RX4 205 yX4_noteIfSettled) ∈ zT := zT_t4 (List.mem_of_getElem? (i := 137) (by decide +kernel)) rfl
theorem wt_4_139 : (Cond.instanceMethod yX4_noteIfSettled) ∈ zT := zT_t4 (List.mem_of_getElem? (i := 139) (by decide +kernel)) rfl
theorem wt_4_140 : (Cond.code yX4_noteIfSettled cX4_noteIfSettled 2 none) ∈ zT := zT_t4 (List.mem_of_getElem? (i := 140) (by decide +kernel)) rfl
theorem wt_4_141 : (Cond.methodLink RX4 208 yX4_wouldChange) ∈ zT := zT_t4 (List.mem_of_getElem? (i := 141) (by decide +kernel)) rfl
theorem wt_4_143 : (Cond.instanceMethod yX4_wouldChange) ∈ zT := zT_t4 (List.mem_of_getElem? (i := 143) (by decide +kernel)) rfl
theorem wt_4_144 : (Cond.code yX4_wouldChange cX4_wouldChange 6 (Option.some .boolean)) ∈ zT := zT_t4 (List.mem_of_getElem? (i := 144) (by decide +kernel)) rfl
theorem wt_4_145 : (Cond.methodLink RX4 212 yX4_step) ∈ zT := zT_t4 (List.mem_of_getElem? (i := 145) (by decide +kernel)) rfl
theorem wt_4_147 : (Cond.instanceMethod yX4_step) ∈ zT := zT_t4 (List.mem_of_getElem? (i := 147) (by decide +kernel)) rfl
theorem wt_4_148 : (Cond.code yX4_step cX4_step 3 none) ∈ zT := zT_t4 (List.mem_of_getElem? (i := 148) (by decide +kernel)) rfl
theorem wt_4_149 : (Cond.methodLink RL 76 yX11_round) ∈ zT := zT_t4 (List.mem_of_getElem? (i := 149) (by decide +kernel)) rfl
theorem wt_4_150 : (Cond.instanceMethod yX11_round) ∈ zT := zT_t4 (List.mem_of_getElem? (i := 150) (by decide +kernel)) rfl
theorem wt_4_151 : (Cond.selects RX11 yX11_round yX11_round) ∈ zT := zT_t4 (List.mem_of_getElem? (i := 151) (by decide +kernel)) rfl
theorem wt_4_152 : (Cond.code yX11_round cX11_round 2 (Option.some .int)) ∈ zT := zT_t4 (List.mem_of_getElem? (i := 152) (by decide +kernel)) rfl
theorem wt_4_153 : (Cond.methodLink RX11 221 yX4_goRound) ∈ zT := zT_t4 (List.mem_of_getElem? (i := 153) (by decide +kernel)) rfl
theorem wt_4_154 : (Cond.instanceMethod yX4_goRound) ∈ zT := zT_t4 (List.mem_of_getElem? (i := 154) (by decide +kernel)) rfl
theorem wt_4_155 : (Cond.selects RX4 yX4_goRound yX4_goRound) ∈ zT := zT_t4 (List.mem_of_getElem? (i := 155) (by decide +kernel)) rfl
theorem wt_4_156 : (Cond.code yX4_goRound cX4_goRound 3 none) ∈ zT := zT_t4 (List.mem_of_getElem? (i := 156) (by decide +kernel)) rfl
theorem wt_4_157 : (Cond.methodLink RX4 231 yX4_orderAsNumber) ∈ zT := zT_t4 (List.mem_of_getElem? (i := 157) (by decide +kernel)) rfl
theorem wt_4_159 : (Cond.instanceMethod yX4_orderAsNumber) ∈ zT := zT_t4 (List.mem_of_getElem? (i := 159) (by decide +kernel)) rfl
theorem wt_4_160 : (Cond.code yX4_orderAsNumber cX4_orderAsNumber 4 (Option.some .long)) ∈ zT := zT_t4 (List.mem_of_getElem? (i := 160) (by decide +kernel)) rfl
theorem wt_4_161 : (Cond.constantLong RX4 241 (10 : Int64)) ∈ zT := zT_t4 (List.mem_of_getElem? (i := 161) (by decide +kernel)) rfl
theorem wt_4_162 : (Cond.methodLink RX4 235 yX4_firstToChange) ∈ zT := zT_t4 (List.mem_of_getElem? (i := 162) (by decide +kernel)) rfl
theorem wt_4_164 : (Cond.instanceMethod yX4_firstToChange) ∈ zT := zT_t4 (List.mem_of_getElem? (i := 164) (by decide +kernel)) rfl
theorem wt_4_165 : (Cond.code yX4_firstToChange cX4_firstToChange 3 (Option.some .int)) ∈ zT := zT_t4 (List.mem_of_getElem? (i := 165) (by decide +kernel)) rfl
theorem wt_4_166 : (Cond.methodLink RX4 238 yX4_changePlaces) ∈ zT := zT_t4 (List.mem_of_getElem? (i := 166) (by decide +kernel)) rfl
theorem wt_4_168 : (Cond.instanceMethod yX4_changePlaces) ∈ zT := zT_t4 (List.mem_of_getElem? (i := 168) (by decide +kernel)) rfl
theorem wt_4_169 : (Cond.code yX4_changePlaces cX4_changePlaces 3 none) ∈ zT := zT_t4 (List.mem_of_getElem? (i := 169) (by decide +kernel)) rfl
theorem wt_4_170 : (Cond.methodLink RL 80 yX11_least) ∈ zT := zT_t4 (List.mem_of_getElem? (i := 170) (by decide +kernel)) rfl
theorem wt_4_171 : (Cond.instanceMethod yX11_least) ∈ zT := zT_t4 (List.mem_of_getElem? (i := 171) (by decide +kernel)) rfl
theorem wt_4_172 : (Cond.selects RX11 yX11_least yX11_least) ∈ zT := zT_t4 (List.mem_of_getElem? (i := 172) (by decide +kernel)) rfl
theorem wt_4_173 : (Cond.code yX11_least cX11_least 2 (Option.some .int)) ∈ zT := zT_t4 (List.mem_of_getElem? (i := 173) (by decide +kernel)) rfl
theorem wt_4_174 : (Cond.methodLink RX11 230 yX4_findLeastWood) ∈ zT := zT_t4 (List.mem_of_getElem? (i := 174) (by decide +kernel)) rfl
theorem wt_4_175 : (Cond.instanceMethod yX4_findLeastWood) ∈ zT := zT_t4 (List.mem_of_getElem? (i := 175) (by decide +kernel)) rfl
theorem wt_4_176 : (Cond.selects RX4 yX4_findLeastWood yX4_findLeastWood) ∈ zT := zT_t4 (List.mem_of_getElem? (i := 176) (by decide +kernel)) rfl
theorem wt_4_177 : (Cond.code yX4_findLeastWood cX4_findLeastWood 1 none) ∈ zT := zT_t4 (List.mem_of_getElem? (i := 177) (by decide +kernel)) rfl
theorem wt_4_178 : (Cond.constant RX4 218 (2147483647 : Int32)) ∈ zT := zT_t4 (List.mem_of_getElem? (i := 178) (by decide +kernel)) rfl
theorem wt_4_179 : (Cond.methodLink RX4 222 yX4_searchLeastWood) ∈ zT := zT_t4 (List.mem_of_getElem? (i := 179) (by decide +kernel)) rfl
theorem wt_4_181 : (Cond.instanceMethod yX4_searchLeastWood) ∈ zT := zT_t4 (List.mem_of_getElem? (i := 181) (by decide +kernel)) rfl
theorem wt_4_182 : (Cond.code yX4_searchLeastWood cX4_searchLeastWood 5 none) ∈ zT := zT_t4 (List.mem_of_getElem? (i := 182) (by decide +kernel)) rfl
theorem wt_4_183 : (Cond.methodLink RL 84 yX11_leaven) ∈ zT := zT_t4 (List.mem_of_getElem? (i := 183) (by decide +kernel)) rfl
theorem wt_4_184 : (Cond.instanceMethod yX11_leaven) ∈ zT := zT_t4 (List.mem_of_getElem? (i := 184) (by decide +kernel)) rfl
theorem wt_4_185 : (Cond.selects RX11 yX11_leaven yX11_leaven) ∈ zT := zT_t4 (List.mem_of_getElem? (i := 185) (by decide +kernel)) rfl
theorem wt_4_186 : (Cond.code yX11_leaven cX11_leaven 3 (Option.some .int)) ∈ zT := zT_t4 (List.mem_of_getElem? (i := 186) (by decide +kernel)) rfl
theorem wt_4_187 : (Cond.methodLink RX11 240 yX3_addNew) ∈ zT := zT_t4 (List.mem_of_getElem? (i := 187) (by decide +kernel)) rfl
theorem wt_4_188 : (Cond.instanceMethod yX3_addNew) ∈ zT := zT_t4 (List.mem_of_getElem? (i := 188) (by decide +kernel)) rfl
theorem wt_4_189 : (Cond.selects RX3 yX3_addNew yX3_addNew) ∈ zT := zT_t4 (List.mem_of_getElem? (i := 189) (by decide +kernel)) rfl
theorem wt_4_190 : (Cond.code yX3_addNew cX3_addNew 2 (Option.some .int)) ∈ zT := zT_t4 (List.mem_of_getElem? (i := 190) (by decide +kernel)) rfl
theorem wt_4_191 : (Cond.methodLink RX3 35 yX3_add) ∈ zT := zT_t4 (List.mem_of_getElem? (i := 191) (by decide +kernel)) rfl
theorem wt_4_193 : (Cond.instanceMethod yX3_add) ∈ zT := zT_t4 (List.mem_of_getElem? (i := 193) (by decide +kernel)) rfl
theorem wt_4_194 : (Cond.code yX3_add cX3_add 7 (Option.some .int)) ∈ zT := zT_t4 (List.mem_of_getElem? (i := 194) (by decide +kernel)) rfl
theorem wt_4_195 : (Cond.methodLink RX11 245 yX3_has) ∈ zT := zT_t4 (List.mem_of_getElem? (i := 195) (by decide +kernel)) rfl
theorem wt_4_196 : (Cond.instanceMethod yX3_has) ∈ zT := zT_t4 (List.mem_of_getElem? (i := 196) (by decide +kernel)) rfl
theorem wt_4_197 : (Cond.selects RX3 yX3_has yX3_has) ∈ zT := zT_t4 (List.mem_of_getElem? (i := 197) (by decide +kernel)) rfl
theorem wt_4_198 : (Cond.code yX3_has cX3_has 2 (Option.some .boolean)) ∈ zT := zT_t4 (List.mem_of_getElem? (i := 198) (by decide +kernel)) rfl
theorem wt_4_199 : (Cond.methodLink RX11 246 yX3_addMixed) ∈ zT := zT_t4 (List.mem_of_getElem? (i := 199) (by decide +kernel)) rfl
theorem wt_4_200 : (Cond.instanceMethod yX3_addMixed) ∈ zT := zT_t4 (List.mem_of_getElem? (i := 200) (by decide +kernel)) rfl
theorem wt_4_201 : (Cond.selects RX3 yX3_addMixed yX3_addMixed) ∈ zT := zT_t4 (List.mem_of_getElem? (i := 201) (by decide +kernel)) rfl
theorem wt_4_202 : (Cond.code yX3_addMixed cX3_addMixed 4 (Option.some .int)) ∈ zT := zT_t4 (List.mem_of_getElem? (i := 202) (by decide +kernel)) rfl
theorem wt_4_203 : (Cond.methodLink RX3 39 yJ9_max_7cf53) ∈ zT := zT_t4 (List.mem_of_getElem? (i := 203) (by decide +kernel)) rfl
theorem wt_4_204 : (Cond.methodLink RL 88 yX11_part) ∈ zT := zT_t4 (List.mem_of_getElem? (i := 204) (by decide +kernel)) rfl
theorem wt_4_205 : (Cond.instanceMethod yX11_part) ∈ zT := zT_t4 (List.mem_of_getElem? (i := 205) (by decide +kernel)) rfl
theorem wt_4_206 : (Cond.selects RX11 yX11_part yX11_part) ∈ zT := zT_t4 (List.mem_of_getElem? (i := 206) (by decide +kernel)) rfl
theorem wt_4_207 : (Cond.code yX11_part cX11_part 10 (Option.some .int)) ∈ zT := zT_t4 (List.mem_of_getElem? (i := 207) (by decide +kernel)) rfl
theorem wt_4_208 : (Cond.methodLink RX11 249 yX3_isNew) ∈ zT := zT_t4 (List.mem_of_getElem? (i := 208) (by decide +kernel)) rfl
theorem wt_4_209 : (Cond.instanceMethod yX3_isNew) ∈ zT := zT_t4 (List.mem_of_getElem? (i := 209) (by decide +kernel)) rfl
theorem wt_4_210 : (Cond.selects RX3 yX3_isNew yX3_isNew) ∈ zT := zT_t4 (List.mem_of_getElem? (i := 210) (by decide +kernel)) rfl
theorem wt_4_211 : (Cond.code yX3_isNew cX3_isNew 2 (Option.some .boolean)) ∈ zT := zT_t4 (List.mem_of_getElem? (i := 211) (by decide +kernel)) rfl
theorem wt_4_212 : (Cond.methodLink RX11 252 yX3_shareOf) ∈ zT := zT_t4 (List.mem_of_getElem? (i := 212) (by decide +kernel)) rfl
theorem wt_4_213 : (Cond.instanceMethod yX3_shareOf) ∈ zT := zT_t4 (List.mem_of_getElem? (i := 213) (by decide +kernel)) rfl
theorem wt_4_214 : (Cond.selects RX3 yX3_shareOf yX3_shareOf) ∈ zT := zT_t4 (List.mem_of_getElem? (i := 214) (by decide +kernel)) rfl
theorem wt_4_215 : (Cond.code yX3_shareOf cX3_shareOf 4 (Option.some .long)) ∈ zT := zT_t4 (List.mem_of_getElem? (i := 215) (by decide +kernel)) rfl
theorem wt_4_216 : (Cond.methodLink RX3 45 yX3_isNew) ∈ zT := zT_t4 (List.mem_of_getElem? (i := 216) (by decide +kernel)) rfl
theorem wt_4_217 : (Cond.constantLong RX3 49 (1073741824 : Int64)) ∈ zT := zT_t4 (List.mem_of_getElem? (i := 217) (by decide +kernel)) rfl
theorem wt_4_218 : (Cond.constantLong RX3 51 (2 : Int64)) ∈ zT := zT_t4 (List.mem_of_getElem? (i := 218) (by decide +kernel)) rfl
theorem wt_4_219 : (Cond.constantLong RX11 256 (1073741824 : Int64)) ∈ zT := zT_t4 (List.mem_of_getElem? (i := 219) (by decide +kernel)) rfl
theorem wt_4_220 : (Cond.methodLink RX11 258 yX11_greatestCommonDivisor) ∈ zT := zT_t4 (List.mem_of_getElem? (i := 220) (by decide +kernel)) rfl
theorem wt_4_221 : (Cond.static yX11_greatestCommonDivisor) ∈ zT := zT_t4 (List.mem_of_getElem? (i := 221) (by decide +kernel)) rfl
theorem wt_4_222 : (Cond.code yX11_greatestCommonDivisor cX11_greatestCommonDivisor 11 (Option.some .long)) ∈ zT := zT_t4 (List.mem_of_getElem? (i := 222) (by decide +kernel)) rfl
theorem wt_4_223 : (Cond.methodLink RL 92 yX11_lent) ∈ zT := zT_t4 (List.mem_of_getElem? (i := 223) (by decide +kernel)) rfl
theorem wt_4_224 : (Cond.instanceMethod yX11_lent) ∈ zT := zT_t4 (List.mem_of_getElem? (i := 224) (by decide +kernel)) rfl
theorem wt_4_225 : (Cond.selects RX11 yX11_lent yX11_lent) ∈ zT := zT_t4 (List.mem_of_getElem? (i := 225) (by decide +kernel)) rfl
theorem wt_4_226 : (Cond.code yX11_lent cX11_lent 3 (Option.some .int)) ∈ zT := zT_t4 (List.mem_of_getElem? (i := 226) (by decide +kernel)) rfl
theorem wt_4_227 : (Cond.methodLink RX11 274 yX3_ownersWithin) ∈ zT := zT_t4 (List.mem_of_getElem? (i := 227) (by decide +kernel)) rfl
theorem wt_4_228 : (Cond.instanceMethod yX3_ownersWithin) ∈ zT := zT_t4 (List.mem_of_getElem? (i := 228) (by decide +kernel)) rfl
theorem wt_4_229 : (Cond.selects RX3 yX3_ownersWithin yX3_ownersWithin) ∈ zT := zT_t4 (List.mem_of_getElem? (i := 229) (by decide +kernel)) rfl
theorem wt_4_230 : (Cond.code yX3_ownersWithin cX3_ownersWithin 4 (Option.some .int)) ∈ zT := zT_t4 (List.mem_of_getElem? (i := 230) (by decide +kernel)) rfl
theorem wt_4_231 : (Cond.methodLink RX3 53 yX3_isLed) ∈ zT := zT_t4 (List.mem_of_getElem? (i := 231) (by decide +kernel)) rfl
theorem wt_4_232 : (Cond.instanceMethod yX3_isLed) ∈ zT := zT_t4 (List.mem_of_getElem? (i := 232) (by decide +kernel)) rfl
theorem wt_4_233 : (Cond.selects RX3 yX3_isLed yX3_isLed) ∈ zT := zT_t4 (List.mem_of_getElem? (i := 233) (by decide +kernel)) rfl
theorem wt_4_234 : (Cond.code yX3_isLed cX3_isLed 3 (Option.some .boolean)) ∈ zT := zT_t4 (List.mem_of_getElem? (i := 234) (by decide +kernel)) rfl
theorem wt_4_235 : (Cond.methodLink RX3 57 yJ6_bitCount_0f7a4) ∈ zT := zT_t4 (List.mem_of_getElem? (i := 235) (by decide +kernel)) rfl
theorem wt_4_236 : (Cond.static yJ6_bitCount_0f7a4) ∈ zT := zT_t4 (List.mem_of_getElem? (i := 236) (by decide +kernel)) rfl
theorem wt_4_237 : (Cond.code yJ6_bitCount_0f7a4 cJ6_bitCount_0f7a4 1 (Option.some .int)) ∈ zT := zT_t4 (List.mem_of_getElem? (i := 237) (by decide +kernel)) rfl
theorem wt_4_238 : (Cond.constant RJ6 265 (1431655765 : Int32)) ∈ zT := zT_t4 (List.mem_of_getElem? (i := 238) (by decide +kernel)) rfl
theorem wt_4_239 : (Cond.constant RJ6 266 (858993459 : Int32)) ∈ zT := zT_t4 (List.mem_of_getElem? (i := 239) (by decide +kernel)) rfl
theorem wt_5_0 : (Cond.constant RJ6 267 (252645135 : Int32)) ∈ zT := zT_t5 (List.mem_of_getElem? (i := 0) (by decide +kernel)) rfl
theorem wt_5_1 : (Cond.methodLink RL 96 yX11_led) ∈ zT := zT_t5 (List.mem_of_getElem? (i := 1) (by decide +kernel)) rfl
theorem wt_5_2 : (Cond.instanceMethod yX11_led) ∈ zT := zT_t5 (List.mem_of_getElem? (i := 2) (by decide +kernel)) rfl
theorem wt_5_3 : (Cond.selects RX11 yX11_led yX11_led) ∈ zT := zT_t5 (List.mem_of_getElem? (i := 3) (by decide +kernel)) rfl
theorem wt_5_4 : (Cond.code yX11_led cX11_led 3 (Option.some .int)) ∈ zT := zT_t5 (List.mem_of_getElem? (i := 4) (by decide +kernel)) rfl
theorem wt_5_5 : (Cond.methodLink RX11 277 yX3_isLed) ∈ zT := zT_t5 (List.mem_of_getElem? (i := 5) (by decide +kernel)) rfl
theorem wt_5_6 : (Cond.methodLink RL 100 yX11_rise) ∈ zT := zT_t5 (List.mem_of_getElem? (i := 6) (by decide +kernel)) rfl
theorem wt_5_7 : (Cond.instanceMethod yX11_rise) ∈ zT := zT_t5 (List.mem_of_getElem? (i := 7) (by decide +kernel)) rfl
theorem wt_5_8 : (Cond.selects RX11 yX11_rise yX11_rise) ∈ zT := zT_t5 (List.mem_of_getElem? (i := 8) (by decide +kernel)) rfl
theorem wt_5_9 : (Cond.code yX11_rise cX11_rise 4 (Option.some .boolean)) ∈ zT := zT_t5 (List.mem_of_getElem? (i := 9) (by decide +kernel)) rfl
theorem wt_5_10 : (Cond.methodLink RL 105 yX11_odds) ∈ zT := zT_t5 (List.mem_of_getElem? (i := 10) (by decide +kernel)) rfl
theorem wt_5_11 : (Cond.instanceMethod yX11_odds) ∈ zT := zT_t5 (List.mem_of_getElem? (i := 11) (by decide +kernel)) rfl
theorem wt_5_12 : (Cond.selects RX11 yX11_odds yX11_odds) ∈ zT := zT_t5 (List.mem_of_getElem? (i := 12) (by decide +kernel)) rfl
theorem wt_5_13 : (Cond.code yX11_odds cX11_odds 11 (Option.some .long)) ∈ zT := zT_t5 (List.mem_of_getElem? (i := 13) (by decide +kernel)) rfl
theorem wt_5_14 : (Cond.constantLong RX11 289 (-1 : Int64)) ∈ zT := zT_t5 (List.mem_of_getElem? (i := 14) (by decide +kernel)) rfl
theorem wt_5_15 : (Cond.methodLink RX11 291 yX5_above) ∈ zT := zT_t5 (List.mem_of_getElem? (i := 15) (by decide +kernel)) rfl
theorem wt_5_16 : (Cond.instanceMethod yX5_above) ∈ zT := zT_t5 (List.mem_of_getElem? (i := 16) (by decide +kernel)) rfl
theorem wt_5_17 : (Cond.selects RX5 yX5_above yX5_above) ∈ zT := zT_t5 (List.mem_of_getElem? (i := 17) (by decide +kernel)) rfl
theorem wt_5_18 : (Cond.code yX5_above cX5_above 7 (Option.some .long)) ∈ zT := zT_t5 (List.mem_of_getElem? (i := 18) (by decide +kernel)) rfl
theorem wt_5_19 : (Cond.methodLink RX5 26 yX2_letterOf) ∈ zT := zT_t5 (List.mem_of_getElem? (i := 19) (by decide +kernel)) rfl
theorem wt_5_20 : (Cond.methodLink RX5 30 yX9_letterAt) ∈ zT := zT_t5 (List.mem_of_getElem? (i := 20) (by decide +kernel)) rfl
theorem wt_5_21 : (Cond.methodLink RX11 295 yX5_below) ∈ zT := zT_t5 (List.mem_of_getElem? (i := 21) (by decide +kernel)) rfl
theorem wt_5_22 : (Cond.instanceMethod yX5_below) ∈ zT := zT_t5 (List.mem_of_getElem? (i := 22) (by decide +kernel)) rfl
theorem wt_5_23 : (Cond.selects RX5 yX5_below yX5_below) ∈ zT := zT_t5 (List.mem_of_getElem? (i := 23) (by decide +kernel)) rfl
theorem wt_5_24 : (Cond.code yX5_below cX5_below 8 (Option.some .long)) ∈ zT := zT_t5 (List.mem_of_getElem? (i := 24) (by decide +kernel)) rfl
theorem wt_5_25 : (Cond.methodLink RX5 34 yX5_allOf) ∈ zT := zT_t5 (List.mem_of_getElem? (i := 25) (by decide +kernel)) rfl
theorem wt_5_27 : (Cond.instanceMethod yX5_allOf) ∈ zT := zT_t5 (List.mem_of_getElem? (i := 27) (by decide +kernel)) rfl
theorem wt_5_28 : (Cond.code yX5_allOf cX5_allOf 4 (Option.some .int)) ∈ zT := zT_t5 (List.mem_of_getElem? (i := 28) (by decide +kernel)) rfl
theorem wt_5_29 : (Cond.methodLink RL 110 yX11_whose) ∈ zT := zT_t5 (List.mem_of_getElem? (i := 29) (by decide +kernel)) rfl
theorem wt_5_30 : (Cond.instanceMethod yX11_whose) ∈ zT := zT_t5 (List.mem_of_getElem? (i := 30) (by decide +kernel)) rfl
theorem wt_5_31 : (Cond.selects RX11 yX11_whose yX11_whose) ∈ zT := zT_t5 (List.mem_of_getElem? (i := 31) (by decide +kernel)) rfl
theorem wt_5_32 : (Cond.code yX11_whose cX11_whose 3 (Option.some .int)) ∈ zT := zT_t5 (List.mem_of_getElem? (i := 32) (by decide +kernel)) rfl
theorem wt_5_33 : (Cond.methodLink RX11 299 yX5_likeliest) ∈ zT := zT_t5 (List.mem_of_getElem? (i := 33) (by decide +kernel)) rfl
theorem wt_5_34 : (Cond.instanceMethod yX5_likeliest) ∈ zT := zT_t5 (List.mem_of_getElem? (i := 34) (by decide +kernel)) rfl
theorem wt_5_35 : (Cond.selects RX5 yX5_likeliest yX5_likeliest) ∈ zT := zT_t5 (List.mem_of_getElem? (i := 35) (by decide +kernel)) rfl
theorem wt_5_36 : (Cond.code yX5_likeliest cX5_likeliest 16 (Option.some .int)) ∈ zT := zT_t5 (List.mem_of_getElem? (i := 36) (by decide +kernel)) rfl
theorem wt_5_37 : (Cond.methodLink RX5 40 yX5_above) ∈ zT := zT_t5 (List.mem_of_getElem? (i := 37) (by decide +kernel)) rfl
theorem wt_5_38 : (Cond.methodLink RX5 44 yX5_below) ∈ zT := zT_t5 (List.mem_of_getElem? (i := 38) (by decide +kernel)) rfl
theorem wt_5_39 : (Cond.methodLink RX5 48 yJ13_compare_74951) ∈ zT := zT_t5 (List.mem_of_getElem? (i := 39) (by decide +kernel)) rfl
theorem wt_5_40 : (Cond.static yJ13_compare_74951) ∈ zT := zT_t5 (List.mem_of_getElem? (i := 40) (by decide +kernel)) rfl
theorem wt_5_41 : (Cond.code yJ13_compare_74951 cJ13_compare_74951 4 (Option.some .int)) ∈ zT := zT_t5 (List.mem_of_getElem? (i := 41) (by decide +kernel)) rfl
theorem wt_5_42 : (Cond.methodLink RL 114 yX11_owe) ∈ zT := zT_t5 (List.mem_of_getElem? (i := 42) (by decide +kernel)) rfl
theorem wt_5_43 : (Cond.instanceMethod yX11_owe) ∈ zT := zT_t5 (List.mem_of_getElem? (i := 43) (by decide +kernel)) rfl
theorem wt_5_44 : (Cond.selects RX11 yX11_owe yX11_owe) ∈ zT := zT_t5 (List.mem_of_getElem? (i := 44) (by decide +kernel)) rfl
theorem wt_5_45 : (Cond.code yX11_owe cX11_owe 4 (Option.some .boolean)) ∈ zT := zT_t5 (List.mem_of_getElem? (i := 45) (by decide +kernel)) rfl
theorem wt_5_46 : (Cond.constant RX11 303 (-99999 : Int32)) ∈ zT := zT_t5 (List.mem_of_getElem? (i := 46) (by decide +kernel)) rfl
theorem wt_5_47 : (Cond.methodLink RL 118 yX11_payments) ∈ zT := zT_t5 (List.mem_of_getElem? (i := 47) (by decide +kernel)) rfl
theorem wt_5_48 : (Cond.instanceMethod yX11_payments) ∈ zT := zT_t5 (List.mem_of_getElem? (i := 48) (by decide +kernel)) rfl
theorem wt_5_49 : (Cond.selects RX11 yX11_payments yX11_payments) ∈ zT := zT_t5 (List.mem_of_getElem? (i := 49) (by decide +kernel)) rfl
theorem wt_5_50 : (Cond.code yX11_payments cX11_payments 1 (Option.some .int)) ∈ zT := zT_t5 (List.mem_of_getElem? (i := 50) (by decide +kernel)) rfl
theorem wt_5_51 : (Cond.methodLink RX11 304 yX8_fewest) ∈ zT := zT_t5 (List.mem_of_getElem? (i := 51) (by decide +kernel)) rfl
theorem wt_5_52 : (Cond.instanceMethod yX8_fewest) ∈ zT := zT_t5 (List.mem_of_getElem? (i := 52) (by decide +kernel)) rfl
theorem wt_5_53 : (Cond.selects RX8 yX8_fewest yX8_fewest) ∈ zT := zT_t5 (List.mem_of_getElem? (i := 53) (by decide +kernel)) rfl
theorem wt_5_54 : (Cond.code yX8_fewest cX8_fewest 7 (Option.some .int)) ∈ zT := zT_t5 (List.mem_of_getElem? (i := 54) (by decide +kernel)) rfl
theorem wt_5_55 : (Cond.methodLink RX8 30 yJ9_max_7cf53) ∈ zT := zT_t5 (List.mem_of_getElem? (i := 55) (by decide +kernel)) rfl
theorem wt_5_56 : (Cond.methodLink RL 122 yX11_undo) ∈ zT := zT_t5 (List.mem_of_getElem? (i := 56) (by decide +kernel)) rfl
theorem wt_5_57 : (Cond.instanceMethod yX11_undo) ∈ zT := zT_t5 (List.mem_of_getElem? (i := 57) (by decide +kernel)) rfl
theorem wt_5_58 : (Cond.selects RX11 yX11_undo yX11_undo) ∈ zT := zT_t5 (List.mem_of_getElem? (i := 58) (by decide +kernel)) rfl
theorem wt_5_59 : (Cond.code yX11_undo cX11_undo 1 (Option.some .boolean)) ∈ zT := zT_t5 (List.mem_of_getElem? (i := 59) (by decide +kernel)) rfl
theorem wt_5_60 : (Cond.methodLink RX11 308 yX1_bringBack) ∈ zT := zT_t5 (List.mem_of_getElem? (i := 60) (by decide +kernel)) rfl
theorem wt_5_61 : (Cond.instanceMethod yX1_bringBack) ∈ zT := zT_t5 (List.mem_of_getElem? (i := 61) (by decide +kernel)) rfl
theorem wt_5_62 : (Cond.selects RX1 yX1_bringBack yX1_bringBack) ∈ zT := zT_t5 (List.mem_of_getElem? (i := 62) (by decide +kernel)) rfl
theorem wt_5_63 : (Cond.code yX1_bringBack cX1_bringBack 2 (Option.some .boolean)) ∈ zT := zT_t5 (List.mem_of_getElem? (i := 63) (by decide +kernel)) rfl
theorem wt_5_64 : (Cond.methodLink RL 127 yX11_image) ∈ zT := zT_t5 (List.mem_of_getElem? (i := 64) (by decide +kernel)) rfl
theorem wt_5_65 : (Cond.instanceMethod yX11_image) ∈ zT := zT_t5 (List.mem_of_getElem? (i := 65) (by decide +kernel)) rfl
theorem wt_5_66 : (Cond.selects RX11 yX11_image yX11_image) ∈ zT := zT_t5 (List.mem_of_getElem? (i := 66) (by decide +kernel)) rfl
theorem wt_5_67 : (Cond.code yX11_image cX11_image 2 (Option.some .boolean)) ∈ zT := zT_t5 (List.mem_of_getElem? (i := 67) (by decide +kernel)) rfl
theorem wt_5_68 : (Cond.methodLink RX11 312 yX0_copyFrom) ∈ zT := zT_t5 (List.mem_of_getElem? (i := 68) (by decide +kernel)) rfl
theorem wt_5_69 : (Cond.instanceMethod yX0_copyFrom) ∈ zT := zT_t5 (List.mem_of_getElem? (i := 69) (by decide +kernel)) rfl
theorem wt_5_70 : (Cond.selects RX0 yX0_copyFrom yX0_copyFrom) ∈ zT := zT_t5 (List.mem_of_getElem? (i := 70) (by decide +kernel)) rfl
theorem wt_5_71 : (Cond.code yX0_copyFrom cX0_copyFrom 2 none) ∈ zT := zT_t5 (List.mem_of_getElem? (i := 71) (by decide +kernel)) rfl
theorem wt_5_72 : (Cond.methodLink RX0 50 yX2_copyFrom) ∈ zT := zT_t5 (List.mem_of_getElem? (i := 72) (by decide +kernel)) rfl
theorem wt_5_73 : (Cond.instanceMethod yX2_copyFrom) ∈ zT := zT_t5 (List.mem_of_getElem? (i := 73) (by decide +kernel)) rfl
theorem wt_5_74 : (Cond.selects RX2 yX2_copyFrom yX2_copyFrom) ∈ zT := zT_t5 (List.mem_of_getElem? (i := 74) (by decide +kernel)) rfl
theorem wt_5_75 : (Cond.code yX2_copyFrom cX2_copyFrom 2 none) ∈ zT := zT_t5 (List.mem_of_getElem? (i := 75) (by decide +kernel)) rfl
theorem wt_5_76 : (Cond.methodLink RX2 43 arraycopyName) ∈ zT := zT_t5 (List.mem_of_getElem? (i := 76) (by decide +kernel)) rfl
theorem wt_5_77 : (Cond.methodLink RX0 54 yX10_copyFrom) ∈ zT := zT_t5 (List.mem_of_getElem? (i := 77) (by decide +kernel)) rfl
theorem wt_5_78 : (Cond.methodLink RX0 57 arraycopyName) ∈ zT := zT_t5 (List.mem_of_getElem? (i := 78) (by decide +kernel)) rfl
theorem wt_5_79 : (Cond.methodLink RX0 73 yX6_take) ∈ zT := zT_t5 (List.mem_of_getElem? (i := 79) (by decide +kernel)) rfl
theorem wt_5_80 : (Cond.methodLink RX0 77 yX3_copyFrom) ∈ zT := zT_t5 (List.mem_of_getElem? (i := 80) (by decide +kernel)) rfl
theorem wt_5_81 : (Cond.instanceMethod yX3_copyFrom) ∈ zT := zT_t5 (List.mem_of_getElem? (i := 81) (by decide +kernel)) rfl
theorem wt_5_82 : (Cond.selects RX3 yX3_copyFrom yX3_copyFrom) ∈ zT := zT_t5 (List.mem_of_getElem? (i := 82) (by decide +kernel)) rfl
theorem wt_5_83 : (Cond.code yX3_copyFrom cX3_copyFrom 2 none) ∈ zT := zT_t5 (List.mem_of_getElem? (i := 83) (by decide +kernel)) rfl
theorem wt_5_84 : (Cond.methodLink RX3 63 arraycopyName) ∈ zT := zT_t5 (List.mem_of_getElem? (i := 84) (by decide +kernel)) rfl
theorem wt_5_85 : (Cond.methodLink RL 132 yX11_look) ∈ zT := zT_t5 (List.mem_of_getElem? (i := 85) (by decide +kernel)) rfl
theorem wt_5_86 : (Cond.instanceMethod yX11_look) ∈ zT := zT_t5 (List.mem_of_getElem? (i := 86) (by decide +kernel)) rfl
theorem wt_5_87 : (Cond.selects RX11 yX11_look yX11_look) ∈ zT := zT_t5 (List.mem_of_getElem? (i := 87) (by decide +kernel)) rfl
theorem wt_5_88 : (Cond.code yX11_look cX11_look 3 (Option.some .int)) ∈ zT := zT_t5 (List.mem_of_getElem? (i := 88) (by decide +kernel)) rfl
theorem wt_5_89 : (Cond.classLink RL 10 RX12) ∈ zT := zT_t5 (List.mem_of_getElem? (i := 89) (by decide +kernel)) rfl
theorem wt_5_90 : (Cond.instantiable RX12 36) ∈ zT := zT_t5 (List.mem_of_getElem? (i := 90) (by decide +kernel)) rfl
theorem wt_5_91 : (Cond.methodLink RL 12 yX12_init) ∈ zT := zT_t5 (List.mem_of_getElem? (i := 91) (by decide +kernel)) rfl
theorem wt_5_92 : (Cond.instanceMethod yX12_init) ∈ zT := zT_t5 (List.mem_of_getElem? (i := 92) (by decide +kernel)) rfl
theorem wt_5_93 : (Cond.code yX12_init cX12_init 2 none) ∈ zT := zT_t5 (List.mem_of_getElem? (i := 93) (by decide +kernel)) rfl
theorem wt_5_94 : (Cond.methodLink RX12 1 objectInit) ∈ zT := zT_t5 (List.mem_of_getElem? (i := 94) (by decide +kernel)) rfl
theorem wt_5_95 : (Cond.fieldLink RX12 7 "DoughDebtsModel" "w" "[I") ∈ zT := zT_t5 (List.mem_of_getElem? (i := 95) (by decide +kernel)) rfl
theorem wt_5_96 : (Cond.fieldLink RX12 13 "DoughDebtsModel" "kept" "[I") ∈ zT := zT_t5 (List.mem_of_getElem? (i := 96) (by decide +kernel)) rfl
theorem wt_5_97 : (Cond.fieldLink RX12 16 "DoughDebtsModel" "back" "[I") ∈ zT := zT_t5 (List.mem_of_getElem? (i := 97) (by decide +kernel)) rfl
theorem wt_5_98 : (Cond.fieldLink RX12 70 "DoughDebtsModel" "backMany" "I") ∈ zT := zT_t5 (List.mem_of_getElem? (i := 98) (by decide +kernel)) rfl
theorem wt_5_99 : (Cond.fieldLink RX12 319 "DoughDebtsModel" "hasImage" "Z") ∈ zT := zT_t5 (List.mem_of_getElem? (i := 99) (by decide +kernel)) rfl
theorem wt_5_100 : (Cond.fieldLink RX12 19 "DoughDebtsModel" "freshLine" "[I") ∈ zT := zT_t5 (List.mem_of_getElem? (i := 100) (by decide +kernel)) rfl
theorem wt_5_101 : (Cond.fieldLink RX12 22 "DoughDebtsModel" "freshStep" "[I") ∈ zT := zT_t5 (List.mem_of_getElem? (i := 101) (by decide +kernel)) rfl
theorem wt_5_102 : (Cond.fieldLink RX12 25 "DoughDebtsModel" "tape" "[I") ∈ zT := zT_t5 (List.mem_of_getElem? (i := 102) (by decide +kernel)) rfl
theorem wt_5_103 : (Cond.fieldLink RX12 28 "DoughDebtsModel" "pile" "[I") ∈ zT := zT_t5 (List.mem_of_getElem? (i := 103) (by decide +kernel)) rfl
theorem wt_5_104 : (Cond.fieldLink RX12 31 "DoughDebtsModel" "facts" "[I") ∈ zT := zT_t5 (List.mem_of_getElem? (i := 104) (by decide +kernel)) rfl
theorem wt_5_105 : (Cond.fieldLink RX12 197 "DoughDebtsModel" "lines" "I") ∈ zT := zT_t5 (List.mem_of_getElem? (i := 105) (by decide +kernel)) rfl
theorem wt_5_106 : (Cond.fieldLink RX12 163 "DoughDebtsModel" "steps" "I") ∈ zT := zT_t5 (List.mem_of_getElem? (i := 106) (by decide +kernel)) rfl
theorem wt_5_107 : (Cond.fieldLink RX12 75 "DoughDebtsModel" "taped" "I") ∈ zT := zT_t5 (List.mem_of_getElem? (i := 107) (by decide +kernel)) rfl
theorem wt_5_108 : (Cond.fieldLink RX12 78 "DoughDebtsModel" "at" "I") ∈ zT := zT_t5 (List.mem_of_getElem? (i := 108) (by decide +kernel)) rfl
theorem wt_5_109 : (Cond.fieldLink RX12 135 "DoughDebtsModel" "token" "I") ∈ zT := zT_t5 (List.mem_of_getElem? (i := 109) (by decide +kernel)) rfl
theorem wt_5_110 : (Cond.fieldLink RX12 81 "DoughDebtsModel" "tokenAt" "I") ∈ zT := zT_t5 (List.mem_of_getElem? (i := 110) (by decide +kernel)) rfl
theorem wt_5_111 : (Cond.fieldLink RX12 148 "DoughDebtsModel" "value" "I") ∈ zT := zT_t5 (List.mem_of_getElem? (i := 111) (by decide +kernel)) rfl
theorem wt_5_112 : (Cond.fieldLink RX12 151 "DoughDebtsModel" "wrong" "I") ∈ zT := zT_t5 (List.mem_of_getElem? (i := 112) (by decide +kernel)) rfl
theorem wt_5_113 : (Cond.fieldLink RX12 154 "DoughDebtsModel" "wrongAt" "I") ∈ zT := zT_t5 (List.mem_of_getElem? (i := 113) (by decide +kernel)) rfl
theorem wt_5_114 : (Cond.fieldLink RX12 203 "DoughDebtsModel" "faultKind" "I") ∈ zT := zT_t5 (List.mem_of_getElem? (i := 114) (by decide +kernel)) rfl
theorem wt_5_115 : (Cond.fieldLink RX12 166 "DoughDebtsModel" "depth" "I") ∈ zT := zT_t5 (List.mem_of_getElem? (i := 115) (by decide +kernel)) rfl
theorem wt_5_116 : (Cond.fieldLink RX12 34 "DoughDebtsModel" "faultPlace" "I") ∈ zT := zT_t5 (List.mem_of_getElem? (i := 116) (by decide +kernel)) rfl
theorem wt_5_117 : (Cond.fieldLink RX12 38 "DoughDebtsModel" "line" "[I") ∈ zT := zT_t5 (List.mem_of_getElem? (i := 117) (by decide +kernel)) rfl
theorem wt_5_118 : (Cond.fieldLink RX12 41 "DoughDebtsModel" "worths" "[I") ∈ zT := zT_t5 (List.mem_of_getElem? (i := 118) (by decide +kernel)) rfl
theorem wt_5_119 : (Cond.fieldLink RX12 247 "DoughDebtsModel" "heat" "I") ∈ zT := zT_t5 (List.mem_of_getElem? (i := 119) (by decide +kernel)) rfl
theorem wt_5_120 : (Cond.fieldLink RX12 44 "DoughDebtsModel" "tried" "[I") ∈ zT := zT_t5 (List.mem_of_getElem? (i := 120) (by decide +kernel)) rfl
theorem wt_5_121 : (Cond.fieldLink RX12 47 "DoughDebtsModel" "woods" "[I") ∈ zT := zT_t5 (List.mem_of_getElem? (i := 121) (by decide +kernel)) rfl
theorem wt_5_122 : (Cond.fieldLink RX12 50 "DoughDebtsModel" "firstRest" "[I") ∈ zT := zT_t5 (List.mem_of_getElem? (i := 122) (by decide +kernel)) rfl
theorem wt_5_123 : (Cond.fieldLink RX12 53 "DoughDebtsModel" "leastRow" "[I") ∈ zT := zT_t5 (List.mem_of_getElem? (i := 123) (by decide +kernel)) rfl
theorem wt_5_124 : (Cond.fieldLink RX12 282 "DoughDebtsModel" "rests" "I") ∈ zT := zT_t5 (List.mem_of_getElem? (i := 124) (by decide +kernel)) rfl
theorem wt_5_125 : (Cond.fieldLink RX12 276 "DoughDebtsModel" "leastWood" "I") ∈ zT := zT_t5 (List.mem_of_getElem? (i := 125) (by decide +kernel)) rfl
theorem wt_5_126 : (Cond.fieldLink RX12 56 "DoughDebtsModel" "rows" "[I") ∈ zT := zT_t5 (List.mem_of_getElem? (i := 126) (by decide +kernel)) rfl
theorem wt_5_127 : (Cond.fieldLink RX12 59 "DoughDebtsModel" "partOf" "[J") ∈ zT := zT_t5 (List.mem_of_getElem? (i := 127) (by decide +kernel)) rfl
theorem wt_5_128 : (Cond.fieldLink RX12 306 "DoughDebtsModel" "above" "J") ∈ zT := zT_t5 (List.mem_of_getElem? (i := 128) (by decide +kernel)) rfl
theorem wt_5_129 : (Cond.fieldLink RX12 310 "DoughDebtsModel" "below" "J") ∈ zT := zT_t5 (List.mem_of_getElem? (i := 129) (by decide +kernel)) rfl
theorem wt_5_130 : (Cond.fieldLink RX12 63 "DoughDebtsModel" "heaps" "[I") ∈ zT := zT_t5 (List.mem_of_getElem? (i := 130) (by decide +kernel)) rfl
theorem wt_5_204 : (Cond.methodLink RL 17 yX12_state) ∈ zT := zT_t5 (List.mem_of_getElem? (i := 204) (by decide +kernel)) rfl
theorem wt_5_205 : (Cond.instanceMethod yX12_state) ∈ zT := zT_t5 (List.mem_of_getElem? (i := 205) (by decide +kernel)) rfl
theorem wt_5_206 : (Cond.selects RX12 yX12_state yX12_state) ∈ zT := zT_t5 (List.mem_of_getElem? (i := 206) (by decide +kernel)) rfl
theorem wt_5_207 : (Cond.code yX12_state cX12_state 3 (Option.some .int)) ∈ zT := zT_t5 (List.mem_of_getElem? (i := 207) (by decide +kernel)) rfl
theorem wt_5_208 : (Cond.methodLink RL 22 yX12_feed) ∈ zT := zT_t5 (List.mem_of_getElem? (i := 208) (by decide +kernel)) rfl
theorem wt_5_209 : (Cond.instanceMethod yX12_feed) ∈ zT := zT_t5 (List.mem_of_getElem? (i := 209) (by decide +kernel)) rfl
theorem wt_5_210 : (Cond.selects RX12 yX12_feed yX12_feed) ∈ zT := zT_t5 (List.mem_of_getElem? (i := 210) (by decide +kernel)) rfl
theorem wt_5_211 : (Cond.code yX12_feed cX12_feed 8 (Option.some .int)) ∈ zT := zT_t5 (List.mem_of_getElem? (i := 211) (by decide +kernel)) rfl
theorem wt_5_212 : (Cond.methodLink RL 27 yX12_end) ∈ zT := zT_t5 (List.mem_of_getElem? (i := 212) (by decide +kernel)) rfl
theorem wt_5_213 : (Cond.instanceMethod yX12_end) ∈ zT := zT_t5 (List.mem_of_getElem? (i := 213) (by decide +kernel)) rfl
theorem wt_5_214 : (Cond.selects RX12 yX12_end yX12_end) ∈ zT := zT_t5 (List.mem_of_getElem? (i := 214) (by decide +kernel)) rfl
theorem wt_5_215 : (Cond.code yX12_end cX12_end 2 (Option.some .boolean)) ∈ zT := zT_t5 (List.mem_of_getElem? (i := 215) (by decide +kernel)) rfl
theorem wt_5_216 : (Cond.methodLink RX12 66 yX12_isIn) ∈ zT := zT_t5 (List.mem_of_getElem? (i := 216) (by decide +kernel)) rfl
theorem wt_5_217 : (Cond.static yX12_isIn) ∈ zT := zT_t5 (List.mem_of_getElem? (i := 217) (by decide +kernel)) rfl
theorem wt_5_218 : (Cond.code yX12_isIn cX12_isIn 3 (Option.some .boolean)) ∈ zT := zT_t5 (List.mem_of_getElem? (i := 218) (by decide +kernel)) rfl
theorem wt_5_219 : (Cond.methodLink RL 46 yX12_text) ∈ zT := zT_t5 (List.mem_of_getElem? (i := 219) (by decide +kernel)) rfl
theorem wt_5_220 : (Cond.instanceMethod yX12_text) ∈ zT := zT_t5 (List.mem_of_getElem? (i := 220) (by decide +kernel)) rfl
theorem wt_5_221 : (Cond.selects RX12 yX12_text yX12_text) ∈ zT := zT_t5 (List.mem_of_getElem? (i := 221) (by decide +kernel)) rfl
theorem wt_5_222 : (Cond.code yX12_text cX12_text 3 (Option.some .int)) ∈ zT := zT_t5 (List.mem_of_getElem? (i := 222) (by decide +kernel)) rfl
theorem wt_5_223 : (Cond.methodLink RX12 160 yX12_next0) ∈ zT := zT_t5 (List.mem_of_getElem? (i := 223) (by decide +kernel)) rfl
theorem wt_5_225 : (Cond.instanceMethod yX12_next0) ∈ zT := zT_t5 (List.mem_of_getElem? (i := 225) (by decide +kernel)) rfl
theorem wt_5_226 : (Cond.code yX12_next0 cX12_next0 3 none) ∈ zT := zT_t5 (List.mem_of_getElem? (i := 226) (by decide +kernel)) rfl
theorem wt_5_227 : (Cond.methodLink RX12 131 yX12_see) ∈ zT := zT_t5 (List.mem_of_getElem? (i := 227) (by decide +kernel)) rfl
theorem wt_5_229 : (Cond.instanceMethod yX12_see) ∈ zT := zT_t5 (List.mem_of_getElem? (i := 229) (by decide +kernel)) rfl
theorem wt_5_230 : (Cond.code yX12_see cX12_see 2 (Option.some .int)) ∈ zT := zT_t5 (List.mem_of_getElem? (i := 230) (by decide +kernel)) rfl
theorem wt_5_231 : (Cond.methodLink RX12 138 yX12_isLetter) ∈ zT := zT_t5 (List.mem_of_getElem? (i := 231) (by decide +kernel)) rfl
theorem wt_5_232 : (Cond.static yX12_isLetter) ∈ zT := zT_t5 (List.mem_of_getElem? (i := 232) (by decide +kernel)) rfl
theorem wt_5_233 : (Cond.code yX12_isLetter cX12_isLetter 1 (Option.some .boolean)) ∈ zT := zT_t5 (List.mem_of_getElem? (i := 233) (by decide +kernel)) rfl
theorem wt_5_234 : (Cond.methodLink RX12 142 yX12_word) ∈ zT := zT_t5 (List.mem_of_getElem? (i := 234) (by decide +kernel)) rfl
theorem wt_5_236 : (Cond.instanceMethod yX12_word) ∈ zT := zT_t5 (List.mem_of_getElem? (i := 236) (by decide +kernel)) rfl
theorem wt_5_237 : (Cond.code yX12_word cX12_word 1 (Option.some .int)) ∈ zT := zT_t5 (List.mem_of_getElem? (i := 237) (by decide +kernel)) rfl
theorem wl_5_238 : (Cond.stringRef RX12 118 "when") ∈ lw_tbl := List.mem_append_right _ ((fun h => List.mem_append_right _ (List.mem_append_right _ (List.mem_append_right _ (List.mem_append_right _ (List.mem_append_left _ h))))) (List.mem_of_getElem? (i := 238) (by decide +kernel) : (Cond.stringRef RX12 118 "when") ∈ tables_1_5))
theorem wt_5_239 : (Cond.methodLink RX12 96 yX12_is) ∈ zT := zT_t5 (List.mem_of_getElem? (i := 239) (by decide +kernel)) rfl
theorem wt_6_1 : (Cond.instanceMethod yX12_is) ∈ zT := zT_t6 (List.mem_of_getElem? (i := 1) (by decide +kernel)) rfl
theorem wt_6_2 : (Cond.code yX12_is cX12_is 4 (Option.some .boolean)) ∈ zT := zT_t6 (List.mem_of_getElem? (i := 2) (by decide +kernel)) rfl
theorem wt_6_3 : (Cond.methodLink RX12 84 yJ0_length_8abf5) ∈ zT := zT_t6 (List.mem_of_getElem? (i := 3) (by decide +kernel)) rfl
theorem wt_6_4 : (Cond.methodLink RX12 90 yJ0_charAt_5068e) ∈ zT := zT_t6 (List.mem_of_getElem? (i := 4) (by decide +kernel)) rfl
theorem wl_6_5 : (Cond.stringRef RX12 120 "or") ∈ lw_tbl := List.mem_append_right _ ((fun h => List.mem_append_right _ (List.mem_append_right _ (List.mem_append_right _ (List.mem_append_right _ (List.mem_append_right _ (List.mem_append_left _ h)))))) (List.mem_of_getElem? (i := 5) (by decide +kernel) : (Cond.stringRef RX12 120 "or") ∈ tables_1_6))
theorem wl_6_6 : (Cond.stringRef RX12 122 "and") ∈ lw_tbl := List.mem_append_right _ ((fun h => List.mem_append_right _ (List.mem_append_right _ (List.mem_append_right _ (List.mem_append_right _ (List.mem_append_right _ (List.mem_append_left _ h)))))) (List.mem_of_getElem? (i := 6) (by decide +kernel) : (Cond.stringRef RX12 122 "and") ∈ tables_1_6))
theorem wl_6_7 : (Cond.stringRef RX12 124 "not") ∈ lw_tbl := List.mem_append_right _ ((fun h => List.mem_append_right _ (List.mem_append_right _ (List.mem_append_right _ (List.mem_append_right _ (List.mem_append_right _ (List.mem_append_left _ h)))))) (List.mem_of_getElem? (i := 7) (by decide +kernel) : (Cond.stringRef RX12 124 "not") ∈ tables_1_6))
theorem wl_6_8 : (Cond.stringRef RX12 126 "worth") ∈ lw_tbl := List.mem_append_right _ ((fun h => List.mem_append_right _ (List.mem_append_right _ (List.mem_append_right _ (List.mem_append_right _ (List.mem_append_right _ (List.mem_append_left _ h)))))) (List.mem_of_getElem? (i := 8) (by decide +kernel) : (Cond.stringRef RX12 126 "worth") ∈ tables_1_6))
theorem wt_6_9 : (Cond.methodLink RX12 128 yX12_nameWord) ∈ zT := zT_t6 (List.mem_of_getElem? (i := 9) (by decide +kernel)) rfl
theorem wt_6_11 : (Cond.instanceMethod yX12_nameWord) ∈ zT := zT_t6 (List.mem_of_getElem? (i := 11) (by decide +kernel)) rfl
theorem wt_6_12 : (Cond.code yX12_nameWord cX12_nameWord 1 (Option.some .int)) ∈ zT := zT_t6 (List.mem_of_getElem? (i := 12) (by decide +kernel)) rfl
theorem wl_6_13 : (Cond.stringRef RX12 94 "size") ∈ lw_tbl := List.mem_append_right _ ((fun h => List.mem_append_right _ (List.mem_append_right _ (List.mem_append_right _ (List.mem_append_right _ (List.mem_append_right _ (List.mem_append_left _ h)))))) (List.mem_of_getElem? (i := 13) (by decide +kernel) : (Cond.stringRef RX12 94 "size") ∈ tables_1_6))
theorem wl_6_14 : (Cond.stringRef RX12 100 "need") ∈ lw_tbl := List.mem_append_right _ ((fun h => List.mem_append_right _ (List.mem_append_right _ (List.mem_append_right _ (List.mem_append_right _ (List.mem_append_right _ (List.mem_append_left _ h)))))) (List.mem_of_getElem? (i := 14) (by decide +kernel) : (Cond.stringRef RX12 100 "need") ∈ tables_1_6))
theorem wl_6_15 : (Cond.stringRef RX12 102 "dough") ∈ lw_tbl := List.mem_append_right _ ((fun h => List.mem_append_right _ (List.mem_append_right _ (List.mem_append_right _ (List.mem_append_right _ (List.mem_append_right _ (List.mem_append_left _ h)))))) (List.mem_of_getElem? (i := 15) (by decide +kernel) : (Cond.stringRef RX12 102 "dough") ∈ tables_1_6))
theorem wl_6_16 : (Cond.stringRef RX12 104 "bread") ∈ lw_tbl := List.mem_append_right _ ((fun h => List.mem_append_right _ (List.mem_append_right _ (List.mem_append_right _ (List.mem_append_right _ (List.mem_append_right _ (List.mem_append_left _ h)))))) (List.mem_of_getElem? (i := 16) (by decide +kernel) : (Cond.stringRef RX12 104 "bread") ∈ tables_1_6))
theorem wl_6_17 : (Cond.stringRef RX12 106 "wood") ∈ lw_tbl := List.mem_append_right _ ((fun h => List.mem_append_right _ (List.mem_append_right _ (List.mem_append_right _ (List.mem_append_right _ (List.mem_append_right _ (List.mem_append_left _ h)))))) (List.mem_of_getElem? (i := 17) (by decide +kernel) : (Cond.stringRef RX12 106 "wood") ∈ tables_1_6))
theorem wl_6_18 : (Cond.stringRef RX12 108 "first") ∈ lw_tbl := List.mem_append_right _ ((fun h => List.mem_append_right _ (List.mem_append_right _ (List.mem_append_right _ (List.mem_append_right _ (List.mem_append_right _ (List.mem_append_left _ h)))))) (List.mem_of_getElem? (i := 18) (by decide +kernel) : (Cond.stringRef RX12 108 "first") ∈ tables_1_6))
theorem wl_6_19 : (Cond.stringRef RX12 110 "sour") ∈ lw_tbl := List.mem_append_right _ ((fun h => List.mem_append_right _ (List.mem_append_right _ (List.mem_append_right _ (List.mem_append_right _ (List.mem_append_right _ (List.mem_append_left _ h)))))) (List.mem_of_getElem? (i := 19) (by decide +kernel) : (Cond.stringRef RX12 110 "sour") ∈ tables_1_6))
theorem wl_6_20 : (Cond.stringRef RX12 112 "house") ∈ lw_tbl := List.mem_append_right _ ((fun h => List.mem_append_right _ (List.mem_append_right _ (List.mem_append_right _ (List.mem_append_right _ (List.mem_append_right _ (List.mem_append_left _ h)))))) (List.mem_of_getElem? (i := 20) (by decide +kernel) : (Cond.stringRef RX12 112 "house") ∈ tables_1_6))
theorem wl_6_21 : (Cond.stringRef RX12 114 "day") ∈ lw_tbl := List.mem_append_right _ ((fun h => List.mem_append_right _ (List.mem_append_right _ (List.mem_append_right _ (List.mem_append_right _ (List.mem_append_right _ (List.mem_append_left _ h)))))) (List.mem_of_getElem? (i := 21) (by decide +kernel) : (Cond.stringRef RX12 114 "day") ∈ tables_1_6))
theorem wl_6_22 : (Cond.stringRef RX12 116 "owes") ∈ lw_tbl := List.mem_append_right _ ((fun h => List.mem_append_right _ (List.mem_append_right _ (List.mem_append_right _ (List.mem_append_right _ (List.mem_append_right _ (List.mem_append_left _ h)))))) (List.mem_of_getElem? (i := 22) (by decide +kernel) : (Cond.stringRef RX12 116 "owes") ∈ tables_1_6))
theorem wt_6_23 : (Cond.methodLink RX12 145 yX12_isDigit) ∈ zT := zT_t6 (List.mem_of_getElem? (i := 23) (by decide +kernel)) rfl
theorem wt_6_24 : (Cond.static yX12_isDigit) ∈ zT := zT_t6 (List.mem_of_getElem? (i := 24) (by decide +kernel)) rfl
theorem wt_6_25 : (Cond.code yX12_isDigit cX12_isDigit 1 (Option.some .boolean)) ∈ zT := zT_t6 (List.mem_of_getElem? (i := 25) (by decide +kernel)) rfl
theorem wt_6_26 : (Cond.methodLink RX12 200 yX12_aLine) ∈ zT := zT_t6 (List.mem_of_getElem? (i := 26) (by decide +kernel)) rfl
theorem wt_6_28 : (Cond.instanceMethod yX12_aLine) ∈ zT := zT_t6 (List.mem_of_getElem? (i := 28) (by decide +kernel)) rfl
theorem wt_6_29 : (Cond.code yX12_aLine cX12_aLine 1 (Option.some .boolean)) ∈ zT := zT_t6 (List.mem_of_getElem? (i := 29) (by decide +kernel)) rfl
theorem wt_6_30 : (Cond.methodLink RX12 157 yX12_bad) ∈ zT := zT_t6 (List.mem_of_getElem? (i := 30) (by decide +kernel)) rfl
theorem wt_6_32 : (Cond.instanceMethod yX12_bad) ∈ zT := zT_t6 (List.mem_of_getElem? (i := 32) (by decide +kernel)) rfl
theorem wt_6_33 : (Cond.code yX12_bad cX12_bad 2 (Option.some .boolean)) ∈ zT := zT_t6 (List.mem_of_getElem? (i := 33) (by decide +kernel)) rfl
theorem wt_6_34 : (Cond.methodLink RX12 194 yX12_sumUp) ∈ zT := zT_t6 (List.mem_of_getElem? (i := 34) (by decide +kernel)) rfl
theorem wt_6_36 : (Cond.instanceMethod yX12_sumUp) ∈ zT := zT_t6 (List.mem_of_getElem? (i := 36) (by decide +kernel)) rfl
theorem wt_6_37 : (Cond.code yX12_sumUp cX12_sumUp 2 (Option.some .boolean)) ∈ zT := zT_t6 (List.mem_of_getElem? (i := 37) (by decide +kernel)) rfl
theorem wt_6_38 : (Cond.methodLink RX12 169 yX12_product) ∈ zT := zT_t6 (List.mem_of_getElem? (i := 38) (by decide +kernel)) rfl
theorem wt_6_40 : (Cond.instanceMethod yX12_product) ∈ zT := zT_t6 (List.mem_of_getElem? (i := 40) (by decide +kernel)) rfl
theorem wt_6_41 : (Cond.code yX12_product cX12_product 3 (Option.some .boolean)) ∈ zT := zT_t6 (List.mem_of_getElem? (i := 41) (by decide +kernel)) rfl
theorem wt_6_42 : (Cond.methodLink RX12 177 yX12_unit) ∈ zT := zT_t6 (List.mem_of_getElem? (i := 42) (by decide +kernel)) rfl
theorem wt_6_44 : (Cond.instanceMethod yX12_unit) ∈ zT := zT_t6 (List.mem_of_getElem? (i := 44) (by decide +kernel)) rfl
theorem wt_6_45 : (Cond.code yX12_unit cX12_unit 2 (Option.some .boolean)) ∈ zT := zT_t6 (List.mem_of_getElem? (i := 45) (by decide +kernel)) rfl
theorem wt_6_46 : (Cond.methodLink RX12 173 yX12_lay) ∈ zT := zT_t6 (List.mem_of_getElem? (i := 46) (by decide +kernel)) rfl
theorem wt_6_48 : (Cond.instanceMethod yX12_lay) ∈ zT := zT_t6 (List.mem_of_getElem? (i := 48) (by decide +kernel)) rfl
theorem wt_6_49 : (Cond.code yX12_lay cX12_lay 3 none) ∈ zT := zT_t6 (List.mem_of_getElem? (i := 49) (by decide +kernel)) rfl
theorem wt_6_50 : (Cond.methodLink RX12 189 yX12_any) ∈ zT := zT_t6 (List.mem_of_getElem? (i := 50) (by decide +kernel)) rfl
theorem wt_6_52 : (Cond.instanceMethod yX12_any) ∈ zT := zT_t6 (List.mem_of_getElem? (i := 52) (by decide +kernel)) rfl
theorem wt_6_53 : (Cond.code yX12_any cX12_any 1 (Option.some .boolean)) ∈ zT := zT_t6 (List.mem_of_getElem? (i := 53) (by decide +kernel)) rfl
theorem wt_6_54 : (Cond.methodLink RX12 180 yX12_every) ∈ zT := zT_t6 (List.mem_of_getElem? (i := 54) (by decide +kernel)) rfl
theorem wt_6_56 : (Cond.instanceMethod yX12_every) ∈ zT := zT_t6 (List.mem_of_getElem? (i := 56) (by decide +kernel)) rfl
theorem wt_6_57 : (Cond.code yX12_every cX12_every 1 (Option.some .boolean)) ∈ zT := zT_t6 (List.mem_of_getElem? (i := 57) (by decide +kernel)) rfl
theorem wt_6_58 : (Cond.methodLink RX12 183 yX12_oneTest) ∈ zT := zT_t6 (List.mem_of_getElem? (i := 58) (by decide +kernel)) rfl
theorem wt_6_60 : (Cond.instanceMethod yX12_oneTest) ∈ zT := zT_t6 (List.mem_of_getElem? (i := 60) (by decide +kernel)) rfl
theorem wt_6_61 : (Cond.code yX12_oneTest cX12_oneTest 2 (Option.some .boolean)) ∈ zT := zT_t6 (List.mem_of_getElem? (i := 61) (by decide +kernel)) rfl
theorem wt_6_62 : (Cond.methodLink RX12 186 yX12_opens) ∈ zT := zT_t6 (List.mem_of_getElem? (i := 62) (by decide +kernel)) rfl
theorem wt_6_64 : (Cond.instanceMethod yX12_opens) ∈ zT := zT_t6 (List.mem_of_getElem? (i := 64) (by decide +kernel)) rfl
theorem wt_6_65 : (Cond.code yX12_opens cX12_opens 1 (Option.some .boolean)) ∈ zT := zT_t6 (List.mem_of_getElem? (i := 65) (by decide +kernel)) rfl
theorem wt_6_66 : (Cond.methodLink RX12 192 yX12_need) ∈ zT := zT_t6 (List.mem_of_getElem? (i := 66) (by decide +kernel)) rfl
theorem wt_6_68 : (Cond.instanceMethod yX12_need) ∈ zT := zT_t6 (List.mem_of_getElem? (i := 68) (by decide +kernel)) rfl
theorem wt_6_69 : (Cond.code yX12_need cX12_need 2 (Option.some .boolean)) ∈ zT := zT_t6 (List.mem_of_getElem? (i := 69) (by decide +kernel)) rfl
theorem wt_6_70 : (Cond.methodLink RL 50 yX12_fault) ∈ zT := zT_t6 (List.mem_of_getElem? (i := 70) (by decide +kernel)) rfl
theorem wt_6_71 : (Cond.instanceMethod yX12_fault) ∈ zT := zT_t6 (List.mem_of_getElem? (i := 71) (by decide +kernel)) rfl
theorem wt_6_72 : (Cond.selects RX12 yX12_fault yX12_fault) ∈ zT := zT_t6 (List.mem_of_getElem? (i := 72) (by decide +kernel)) rfl
theorem wt_6_73 : (Cond.code yX12_fault cX12_fault 2 (Option.some .int)) ∈ zT := zT_t6 (List.mem_of_getElem? (i := 73) (by decide +kernel)) rfl
theorem wt_6_74 : (Cond.methodLink RL 32 yX12_house) ∈ zT := zT_t6 (List.mem_of_getElem? (i := 74) (by decide +kernel)) rfl
theorem wt_6_75 : (Cond.instanceMethod yX12_house) ∈ zT := zT_t6 (List.mem_of_getElem? (i := 75) (by decide +kernel)) rfl
theorem wt_6_76 : (Cond.selects RX12 yX12_house yX12_house) ∈ zT := zT_t6 (List.mem_of_getElem? (i := 76) (by decide +kernel)) rfl
theorem wt_6_77 : (Cond.code yX12_house cX12_house 7 (Option.some .int)) ∈ zT := zT_t6 (List.mem_of_getElem? (i := 77) (by decide +kernel)) rfl
theorem wt_6_78 : (Cond.methodLink RX12 210 yX12_takesRow) ∈ zT := zT_t6 (List.mem_of_getElem? (i := 78) (by decide +kernel)) rfl
theorem wt_6_80 : (Cond.instanceMethod yX12_takesRow) ∈ zT := zT_t6 (List.mem_of_getElem? (i := 80) (by decide +kernel)) rfl
theorem wt_6_81 : (Cond.code yX12_takesRow cX12_takesRow 3 (Option.some .int)) ∈ zT := zT_t6 (List.mem_of_getElem? (i := 81) (by decide +kernel)) rfl
theorem wt_6_82 : (Cond.methodLink RX12 213 yX12_forgets) ∈ zT := zT_t6 (List.mem_of_getElem? (i := 82) (by decide +kernel)) rfl
theorem wt_6_84 : (Cond.instanceMethod yX12_forgets) ∈ zT := zT_t6 (List.mem_of_getElem? (i := 84) (by decide +kernel)) rfl
theorem wt_6_85 : (Cond.code yX12_forgets cX12_forgets 1 none) ∈ zT := zT_t6 (List.mem_of_getElem? (i := 85) (by decide +kernel)) rfl
theorem wt_6_86 : (Cond.methodLink RL 37 yX12_give) ∈ zT := zT_t6 (List.mem_of_getElem? (i := 86) (by decide +kernel)) rfl
theorem wt_6_87 : (Cond.instanceMethod yX12_give) ∈ zT := zT_t6 (List.mem_of_getElem? (i := 87) (by decide +kernel)) rfl
theorem wt_6_88 : (Cond.selects RX12 yX12_give yX12_give) ∈ zT := zT_t6 (List.mem_of_getElem? (i := 88) (by decide +kernel)) rfl
theorem wt_6_89 : (Cond.code yX12_give cX12_give 3 (Option.some .boolean)) ∈ zT := zT_t6 (List.mem_of_getElem? (i := 89) (by decide +kernel)) rfl
theorem wt_6_90 : (Cond.methodLink RX12 216 yX12_isHouse) ∈ zT := zT_t6 (List.mem_of_getElem? (i := 90) (by decide +kernel)) rfl
theorem wt_6_92 : (Cond.instanceMethod yX12_isHouse) ∈ zT := zT_t6 (List.mem_of_getElem? (i := 92) (by decide +kernel)) rfl
theorem wt_6_93 : (Cond.code yX12_isHouse cX12_isHouse 2 (Option.some .boolean)) ∈ zT := zT_t6 (List.mem_of_getElem? (i := 93) (by decide +kernel)) rfl
theorem wt_6_94 : (Cond.constant RX12 219 (99999 : Int32)) ∈ zT := zT_t6 (List.mem_of_getElem? (i := 94) (by decide +kernel)) rfl
theorem wt_6_95 : (Cond.methodLink RX12 220 yX12_own) ∈ zT := zT_t6 (List.mem_of_getElem? (i := 95) (by decide +kernel)) rfl
theorem wt_6_97 : (Cond.instanceMethod yX12_own) ∈ zT := zT_t6 (List.mem_of_getElem? (i := 97) (by decide +kernel)) rfl
theorem wt_6_98 : (Cond.code yX12_own cX12_own 3 (Option.some .int)) ∈ zT := zT_t6 (List.mem_of_getElem? (i := 98) (by decide +kernel)) rfl
theorem wt_6_99 : (Cond.constant RX12 224 (999999 : Int32)) ∈ zT := zT_t6 (List.mem_of_getElem? (i := 99) (by decide +kernel)) rfl
theorem wt_6_100 : (Cond.methodLink RX12 225 yX12_adds) ∈ zT := zT_t6 (List.mem_of_getElem? (i := 100) (by decide +kernel)) rfl
theorem wt_6_102 : (Cond.instanceMethod yX12_adds) ∈ zT := zT_t6 (List.mem_of_getElem? (i := 102) (by decide +kernel)) rfl
theorem wt_6_103 : (Cond.code yX12_adds cX12_adds 4 none) ∈ zT := zT_t6 (List.mem_of_getElem? (i := 103) (by decide +kernel)) rfl
theorem wt_6_104 : (Cond.methodLink RL 41 yX12_set) ∈ zT := zT_t6 (List.mem_of_getElem? (i := 104) (by decide +kernel)) rfl
theorem wt_6_105 : (Cond.instanceMethod yX12_set) ∈ zT := zT_t6 (List.mem_of_getElem? (i := 105) (by decide +kernel)) rfl
theorem wt_6_106 : (Cond.selects RX12 yX12_set yX12_set) ∈ zT := zT_t6 (List.mem_of_getElem? (i := 106) (by decide +kernel)) rfl
theorem wt_6_107 : (Cond.code yX12_set cX12_set 3 (Option.some .boolean)) ∈ zT := zT_t6 (List.mem_of_getElem? (i := 107) (by decide +kernel)) rfl
theorem wt_6_108 : (Cond.methodLink RL 54 yX12_order) ∈ zT := zT_t6 (List.mem_of_getElem? (i := 108) (by decide +kernel)) rfl
theorem wt_6_109 : (Cond.instanceMethod yX12_order) ∈ zT := zT_t6 (List.mem_of_getElem? (i := 109) (by decide +kernel)) rfl
theorem wt_6_110 : (Cond.selects RX12 yX12_order yX12_order) ∈ zT := zT_t6 (List.mem_of_getElem? (i := 110) (by decide +kernel)) rfl
theorem wt_6_111 : (Cond.code yX12_order cX12_order 2 (Option.some .int)) ∈ zT := zT_t6 (List.mem_of_getElem? (i := 111) (by decide +kernel)) rfl
theorem wt_6_112 : (Cond.methodLink RX12 240 yX12_laysOrder) ∈ zT := zT_t6 (List.mem_of_getElem? (i := 112) (by decide +kernel)) rfl
theorem wt_6_114 : (Cond.instanceMethod yX12_laysOrder) ∈ zT := zT_t6 (List.mem_of_getElem? (i := 114) (by decide +kernel)) rfl
theorem wt_6_115 : (Cond.code yX12_laysOrder cX12_laysOrder 6 none) ∈ zT := zT_t6 (List.mem_of_getElem? (i := 115) (by decide +kernel)) rfl
theorem wt_6_116 : (Cond.methodLink RX12 238 yX12_worth) ∈ zT := zT_t6 (List.mem_of_getElem? (i := 116) (by decide +kernel)) rfl
theorem wt_6_118 : (Cond.instanceMethod yX12_worth) ∈ zT := zT_t6 (List.mem_of_getElem? (i := 118) (by decide +kernel)) rfl
theorem wt_6_119 : (Cond.code yX12_worth cX12_worth 3 (Option.some .int)) ∈ zT := zT_t6 (List.mem_of_getElem? (i := 119) (by decide +kernel)) rfl
theorem wt_6_120 : (Cond.methodLink RX12 232 yX12_net) ∈ zT := zT_t6 (List.mem_of_getElem? (i := 120) (by decide +kernel)) rfl
theorem wt_6_122 : (Cond.instanceMethod yX12_net) ∈ zT := zT_t6 (List.mem_of_getElem? (i := 122) (by decide +kernel)) rfl
theorem wt_6_123 : (Cond.code yX12_net cX12_net 4 (Option.some .int)) ∈ zT := zT_t6 (List.mem_of_getElem? (i := 123) (by decide +kernel)) rfl
theorem wt_6_124 : (Cond.methodLink RX12 229 yX12_debt) ∈ zT := zT_t6 (List.mem_of_getElem? (i := 124) (by decide +kernel)) rfl
theorem wt_6_126 : (Cond.instanceMethod yX12_debt) ∈ zT := zT_t6 (List.mem_of_getElem? (i := 126) (by decide +kernel)) rfl
theorem wt_6_127 : (Cond.code yX12_debt cX12_debt 3 (Option.some .int)) ∈ zT := zT_t6 (List.mem_of_getElem? (i := 127) (by decide +kernel)) rfl
theorem wt_6_128 : (Cond.methodLink RX12 235 yX12_comesTo) ∈ zT := zT_t6 (List.mem_of_getElem? (i := 128) (by decide +kernel)) rfl
theorem wt_6_130 : (Cond.instanceMethod yX12_comesTo) ∈ zT := zT_t6 (List.mem_of_getElem? (i := 130) (by decide +kernel)) rfl
theorem wt_6_131 : (Cond.code yX12_comesTo cX12_comesTo 7 (Option.some .int)) ∈ zT := zT_t6 (List.mem_of_getElem? (i := 131) (by decide +kernel)) rfl
theorem wt_6_132 : (Cond.methodLink RX12 206 yX12_both) ∈ zT := zT_t6 (List.mem_of_getElem? (i := 132) (by decide +kernel)) rfl
theorem wt_6_133 : (Cond.static yX12_both) ∈ zT := zT_t6 (List.mem_of_getElem? (i := 133) (by decide +kernel)) rfl
theorem wt_6_134 : (Cond.code yX12_both cX12_both 3 (Option.some .int)) ∈ zT := zT_t6 (List.mem_of_getElem? (i := 134) (by decide +kernel)) rfl
theorem wt_6_135 : (Cond.methodLink RL 58 yX12_days) ∈ zT := zT_t6 (List.mem_of_getElem? (i := 135) (by decide +kernel)) rfl
theorem wt_6_136 : (Cond.instanceMethod yX12_days) ∈ zT := zT_t6 (List.mem_of_getElem? (i := 136) (by decide +kernel)) rfl
theorem wt_6_137 : (Cond.selects RX12 yX12_days yX12_days) ∈ zT := zT_t6 (List.mem_of_getElem? (i := 137) (by decide +kernel)) rfl
theorem wt_6_138 : (Cond.code yX12_days cX12_days 5 (Option.some .int)) ∈ zT := zT_t6 (List.mem_of_getElem? (i := 138) (by decide +kernel)) rfl
theorem wt_6_139 : (Cond.methodLink RX12 256 yX12_aDay) ∈ zT := zT_t6 (List.mem_of_getElem? (i := 139) (by decide +kernel)) rfl
theorem wt_6_141 : (Cond.instanceMethod yX12_aDay) ∈ zT := zT_t6 (List.mem_of_getElem? (i := 141) (by decide +kernel)) rfl
theorem wt_6_142 : (Cond.code yX12_aDay cX12_aDay 8 (Option.some .int)) ∈ zT := zT_t6 (List.mem_of_getElem? (i := 142) (by decide +kernel)) rfl
theorem wt_6_143 : (Cond.methodLink RX12 250 yX12_draw) ∈ zT := zT_t6 (List.mem_of_getElem? (i := 143) (by decide +kernel)) rfl
theorem wt_6_145 : (Cond.instanceMethod yX12_draw) ∈ zT := zT_t6 (List.mem_of_getElem? (i := 145) (by decide +kernel)) rfl
theorem wt_6_146 : (Cond.code yX12_draw cX12_draw 2 (Option.some .int)) ∈ zT := zT_t6 (List.mem_of_getElem? (i := 146) (by decide +kernel)) rfl
theorem wt_6_147 : (Cond.constant RX12 73 (1664525 : Int32)) ∈ zT := zT_t6 (List.mem_of_getElem? (i := 147) (by decide +kernel)) rfl
theorem wt_6_148 : (Cond.constant RX12 74 (1013904223 : Int32)) ∈ zT := zT_t6 (List.mem_of_getElem? (i := 148) (by decide +kernel)) rfl
theorem wt_6_149 : (Cond.methodLink RX12 244 yX12_loaf) ∈ zT := zT_t6 (List.mem_of_getElem? (i := 149) (by decide +kernel)) rfl
theorem wt_6_151 : (Cond.instanceMethod yX12_loaf) ∈ zT := zT_t6 (List.mem_of_getElem? (i := 151) (by decide +kernel)) rfl
theorem wt_6_152 : (Cond.code yX12_loaf cX12_loaf 2 (Option.some .int)) ∈ zT := zT_t6 (List.mem_of_getElem? (i := 152) (by decide +kernel)) rfl
theorem wt_6_153 : (Cond.methodLink RX12 253 yX12_heats) ∈ zT := zT_t6 (List.mem_of_getElem? (i := 153) (by decide +kernel)) rfl
theorem wt_6_155 : (Cond.instanceMethod yX12_heats) ∈ zT := zT_t6 (List.mem_of_getElem? (i := 155) (by decide +kernel)) rfl
theorem wt_6_156 : (Cond.code yX12_heats cX12_heats 3 (Option.some .int)) ∈ zT := zT_t6 (List.mem_of_getElem? (i := 156) (by decide +kernel)) rfl
theorem wt_6_157 : (Cond.methodLink RL 126 yX12_undo) ∈ zT := zT_t6 (List.mem_of_getElem? (i := 157) (by decide +kernel)) rfl
theorem wt_6_158 : (Cond.instanceMethod yX12_undo) ∈ zT := zT_t6 (List.mem_of_getElem? (i := 158) (by decide +kernel)) rfl
theorem wt_6_159 : (Cond.selects RX12 yX12_undo yX12_undo) ∈ zT := zT_t6 (List.mem_of_getElem? (i := 159) (by decide +kernel)) rfl
theorem wt_6_160 : (Cond.code yX12_undo cX12_undo 2 (Option.some .boolean)) ∈ zT := zT_t6 (List.mem_of_getElem? (i := 160) (by decide +kernel)) rfl
theorem wt_6_161 : (Cond.methodLink RL 63 yX12_of) ∈ zT := zT_t6 (List.mem_of_getElem? (i := 161) (by decide +kernel)) rfl
theorem wt_6_162 : (Cond.instanceMethod yX12_of) ∈ zT := zT_t6 (List.mem_of_getElem? (i := 162) (by decide +kernel)) rfl
theorem wt_6_163 : (Cond.selects RX12 yX12_of yX12_of) ∈ zT := zT_t6 (List.mem_of_getElem? (i := 163) (by decide +kernel)) rfl
theorem wt_6_164 : (Cond.code yX12_of cX12_of 3 (Option.some .int)) ∈ zT := zT_t6 (List.mem_of_getElem? (i := 164) (by decide +kernel)) rfl
theorem wt_6_165 : (Cond.constant RX12 259 (-1000000000 : Int32)) ∈ zT := zT_t6 (List.mem_of_getElem? (i := 165) (by decide +kernel)) rfl
theorem wt_6_166 : (Cond.methodLink RL 67 yX12_book) ∈ zT := zT_t6 (List.mem_of_getElem? (i := 166) (by decide +kernel)) rfl
theorem wt_6_167 : (Cond.instanceMethod yX12_book) ∈ zT := zT_t6 (List.mem_of_getElem? (i := 167) (by decide +kernel)) rfl
theorem wt_6_168 : (Cond.selects RX12 yX12_book yX12_book) ∈ zT := zT_t6 (List.mem_of_getElem? (i := 168) (by decide +kernel)) rfl
theorem wt_6_169 : (Cond.code yX12_book cX12_book 2 (Option.some .int)) ∈ zT := zT_t6 (List.mem_of_getElem? (i := 169) (by decide +kernel)) rfl
theorem wt_6_170 : (Cond.methodLink RL 71 yX12_gain) ∈ zT := zT_t6 (List.mem_of_getElem? (i := 170) (by decide +kernel)) rfl
theorem wt_6_171 : (Cond.instanceMethod yX12_gain) ∈ zT := zT_t6 (List.mem_of_getElem? (i := 171) (by decide +kernel)) rfl
theorem wt_6_172 : (Cond.selects RX12 yX12_gain yX12_gain) ∈ zT := zT_t6 (List.mem_of_getElem? (i := 172) (by decide +kernel)) rfl
theorem wt_6_173 : (Cond.code yX12_gain cX12_gain 7 (Option.some .int)) ∈ zT := zT_t6 (List.mem_of_getElem? (i := 173) (by decide +kernel)) rfl
theorem wt_6_174 : (Cond.methodLink RX12 260 yX12_bakes) ∈ zT := zT_t6 (List.mem_of_getElem? (i := 174) (by decide +kernel)) rfl
theorem wt_6_176 : (Cond.instanceMethod yX12_bakes) ∈ zT := zT_t6 (List.mem_of_getElem? (i := 176) (by decide +kernel)) rfl
theorem wt_6_177 : (Cond.code yX12_bakes cX12_bakes 3 (Option.some .int)) ∈ zT := zT_t6 (List.mem_of_getElem? (i := 177) (by decide +kernel)) rfl
theorem wt_6_178 : (Cond.methodLink RX12 263 yX12_gainAt) ∈ zT := zT_t6 (List.mem_of_getElem? (i := 178) (by decide +kernel)) rfl
theorem wt_6_180 : (Cond.instanceMethod yX12_gainAt) ∈ zT := zT_t6 (List.mem_of_getElem? (i := 180) (by decide +kernel)) rfl
theorem wt_6_181 : (Cond.code yX12_gainAt cX12_gainAt 3 (Option.some .int)) ∈ zT := zT_t6 (List.mem_of_getElem? (i := 181) (by decide +kernel)) rfl
theorem wt_6_182 : (Cond.methodLink RL 75 yX12_orders) ∈ zT := zT_t6 (List.mem_of_getElem? (i := 182) (by decide +kernel)) rfl
theorem wt_6_183 : (Cond.instanceMethod yX12_orders) ∈ zT := zT_t6 (List.mem_of_getElem? (i := 183) (by decide +kernel)) rfl
theorem wt_6_184 : (Cond.selects RX12 yX12_orders yX12_orders) ∈ zT := zT_t6 (List.mem_of_getElem? (i := 184) (by decide +kernel)) rfl
theorem wt_6_185 : (Cond.code yX12_orders cX12_orders 2 (Option.some .int)) ∈ zT := zT_t6 (List.mem_of_getElem? (i := 185) (by decide +kernel)) rfl
theorem wt_6_186 : (Cond.methodLink RX12 285 yX12_isTold) ∈ zT := zT_t6 (List.mem_of_getElem? (i := 186) (by decide +kernel)) rfl
theorem wt_6_188 : (Cond.instanceMethod yX12_isTold) ∈ zT := zT_t6 (List.mem_of_getElem? (i := 188) (by decide +kernel)) rfl
theorem wt_6_189 : (Cond.code yX12_isTold cX12_isTold 2 (Option.some .boolean)) ∈ zT := zT_t6 (List.mem_of_getElem? (i := 189) (by decide +kernel)) rfl
theorem wt_6_190 : (Cond.methodLink RX12 273 yX12_goesThrough) ∈ zT := zT_t6 (List.mem_of_getElem? (i := 190) (by decide +kernel)) rfl
theorem wt_6_192 : (Cond.instanceMethod yX12_goesThrough) ∈ zT := zT_t6 (List.mem_of_getElem? (i := 192) (by decide +kernel)) rfl
theorem wt_6_193 : (Cond.code yX12_goesThrough cX12_goesThrough 6 none) ∈ zT := zT_t6 (List.mem_of_getElem? (i := 193) (by decide +kernel)) rfl
theorem wt_6_194 : (Cond.methodLink RX12 279 yX12_firstChange) ∈ zT := zT_t6 (List.mem_of_getElem? (i := 194) (by decide +kernel)) rfl
theorem wt_6_196 : (Cond.instanceMethod yX12_firstChange) ∈ zT := zT_t6 (List.mem_of_getElem? (i := 196) (by decide +kernel)) rfl
theorem wt_6_197 : (Cond.code yX12_firstChange cX12_firstChange 2 (Option.some .int)) ∈ zT := zT_t6 (List.mem_of_getElem? (i := 197) (by decide +kernel)) rfl
theorem wt_6_198 : (Cond.methodLink RX12 270 yX12_wouldChange) ∈ zT := zT_t6 (List.mem_of_getElem? (i := 198) (by decide +kernel)) rfl
theorem wt_6_200 : (Cond.instanceMethod yX12_wouldChange) ∈ zT := zT_t6 (List.mem_of_getElem? (i := 200) (by decide +kernel)) rfl
theorem wt_6_201 : (Cond.code yX12_wouldChange cX12_wouldChange 5 (Option.some .boolean)) ∈ zT := zT_t6 (List.mem_of_getElem? (i := 201) (by decide +kernel)) rfl
theorem wt_6_202 : (Cond.methodLink RX12 266 yX12_exchanges) ∈ zT := zT_t6 (List.mem_of_getElem? (i := 202) (by decide +kernel)) rfl
theorem wt_6_204 : (Cond.instanceMethod yX12_exchanges) ∈ zT := zT_t6 (List.mem_of_getElem? (i := 204) (by decide +kernel)) rfl
theorem wt_6_205 : (Cond.code yX12_exchanges cX12_exchanges 3 none) ∈ zT := zT_t6 (List.mem_of_getElem? (i := 205) (by decide +kernel)) rfl
theorem wt_6_206 : (Cond.methodLink RL 83 yX12_least) ∈ zT := zT_t6 (List.mem_of_getElem? (i := 206) (by decide +kernel)) rfl
theorem wt_6_207 : (Cond.instanceMethod yX12_least) ∈ zT := zT_t6 (List.mem_of_getElem? (i := 207) (by decide +kernel)) rfl
theorem wt_6_208 : (Cond.selects RX12 yX12_least yX12_least) ∈ zT := zT_t6 (List.mem_of_getElem? (i := 208) (by decide +kernel)) rfl
theorem wt_6_209 : (Cond.code yX12_least cX12_least 2 (Option.some .int)) ∈ zT := zT_t6 (List.mem_of_getElem? (i := 209) (by decide +kernel)) rfl
theorem wt_6_210 : (Cond.methodLink RL 79 yX12_round) ∈ zT := zT_t6 (List.mem_of_getElem? (i := 210) (by decide +kernel)) rfl
theorem wt_6_211 : (Cond.instanceMethod yX12_round) ∈ zT := zT_t6 (List.mem_of_getElem? (i := 211) (by decide +kernel)) rfl
theorem wt_6_212 : (Cond.selects RX12 yX12_round yX12_round) ∈ zT := zT_t6 (List.mem_of_getElem? (i := 212) (by decide +kernel)) rfl
theorem wt_6_213 : (Cond.code yX12_round cX12_round 4 (Option.some .int)) ∈ zT := zT_t6 (List.mem_of_getElem? (i := 213) (by decide +kernel)) rfl
theorem wt_6_214 : (Cond.methodLink RX12 288 yX12_isRow) ∈ zT := zT_t6 (List.mem_of_getElem? (i := 214) (by decide +kernel)) rfl
theorem wt_6_216 : (Cond.instanceMethod yX12_isRow) ∈ zT := zT_t6 (List.mem_of_getElem? (i := 216) (by decide +kernel)) rfl
theorem wt_6_217 : (Cond.code yX12_isRow cX12_isRow 3 (Option.some .boolean)) ∈ zT := zT_t6 (List.mem_of_getElem? (i := 217) (by decide +kernel)) rfl
theorem wt_6_218 : (Cond.methodLink RL 87 yX12_leaven) ∈ zT := zT_t6 (List.mem_of_getElem? (i := 218) (by decide +kernel)) rfl
theorem wt_6_219 : (Cond.instanceMethod yX12_leaven) ∈ zT := zT_t6 (List.mem_of_getElem? (i := 219) (by decide +kernel)) rfl
theorem wt_6_220 : (Cond.selects RX12 yX12_leaven yX12_leaven) ∈ zT := zT_t6 (List.mem_of_getElem? (i := 220) (by decide +kernel)) rfl
theorem wt_6_221 : (Cond.code yX12_leaven cX12_leaven 5 (Option.some .int)) ∈ zT := zT_t6 (List.mem_of_getElem? (i := 221) (by decide +kernel)) rfl
theorem wt_6_222 : (Cond.methodLink RX12 291 yX12_isLeaven) ∈ zT := zT_t6 (List.mem_of_getElem? (i := 222) (by decide +kernel)) rfl
theorem wt_6_224 : (Cond.instanceMethod yX12_isLeaven) ∈ zT := zT_t6 (List.mem_of_getElem? (i := 224) (by decide +kernel)) rfl
theorem wt_6_225 : (Cond.code yX12_isLeaven cX12_isLeaven 2 (Option.some .boolean)) ∈ zT := zT_t6 (List.mem_of_getElem? (i := 225) (by decide +kernel)) rfl
theorem wt_6_226 : (Cond.methodLink RX12 294 yX12_ofLeaven) ∈ zT := zT_t6 (List.mem_of_getElem? (i := 226) (by decide +kernel)) rfl
theorem wt_6_228 : (Cond.instanceMethod yX12_ofLeaven) ∈ zT := zT_t6 (List.mem_of_getElem? (i := 228) (by decide +kernel)) rfl
theorem wt_6_229 : (Cond.code yX12_ofLeaven cX12_ofLeaven 3 (Option.some .int)) ∈ zT := zT_t6 (List.mem_of_getElem? (i := 229) (by decide +kernel)) rfl
theorem wt_6_230 : (Cond.methodLink RL 91 yX12_part) ∈ zT := zT_t6 (List.mem_of_getElem? (i := 230) (by decide +kernel)) rfl
theorem wt_6_231 : (Cond.instanceMethod yX12_part) ∈ zT := zT_t6 (List.mem_of_getElem? (i := 231) (by decide +kernel)) rfl
theorem wt_6_232 : (Cond.selects RX12 yX12_part yX12_part) ∈ zT := zT_t6 (List.mem_of_getElem? (i := 232) (by decide +kernel)) rfl
theorem wt_6_233 : (Cond.code yX12_part cX12_part 8 (Option.some .int)) ∈ zT := zT_t6 (List.mem_of_getElem? (i := 233) (by decide +kernel)) rfl
theorem wt_6_234 : (Cond.methodLink RX12 297 yX12_laysParts) ∈ zT := zT_t6 (List.mem_of_getElem? (i := 234) (by decide +kernel)) rfl
theorem wt_6_236 : (Cond.instanceMethod yX12_laysParts) ∈ zT := zT_t6 (List.mem_of_getElem? (i := 236) (by decide +kernel)) rfl
theorem wt_6_237 : (Cond.code yX12_laysParts cX12_laysParts 6 none) ∈ zT := zT_t6 (List.mem_of_getElem? (i := 237) (by decide +kernel)) rfl
theorem wt_6_238 : (Cond.constantLong RX12 300 (2 : Int64)) ∈ zT := zT_t6 (List.mem_of_getElem? (i := 238) (by decide +kernel)) rfl
theorem wt_6_239 : (Cond.methodLink RL 99 yX12_led) ∈ zT := zT_t6 (List.mem_of_getElem? (i := 239) (by decide +kernel)) rfl
theorem wt_7_0 : (Cond.instanceMethod yX12_led) ∈ zT := zT_t7 (List.mem_of_getElem? (i := 0) (by decide +kernel)) rfl
theorem wt_7_1 : (Cond.selects RX12 yX12_led yX12_led) ∈ zT := zT_t7 (List.mem_of_getElem? (i := 1) (by decide +kernel)) rfl
theorem wt_7_2 : (Cond.code yX12_led cX12_led 3 (Option.some .int)) ∈ zT := zT_t7 (List.mem_of_getElem? (i := 2) (by decide +kernel)) rfl
theorem wt_7_3 : (Cond.methodLink RX12 302 yX12_isLed) ∈ zT := zT_t7 (List.mem_of_getElem? (i := 3) (by decide +kernel)) rfl
theorem wt_7_5 : (Cond.instanceMethod yX12_isLed) ∈ zT := zT_t7 (List.mem_of_getElem? (i := 5) (by decide +kernel)) rfl
theorem wt_7_6 : (Cond.code yX12_isLed cX12_isLed 3 (Option.some .boolean)) ∈ zT := zT_t7 (List.mem_of_getElem? (i := 6) (by decide +kernel)) rfl
theorem wt_7_7 : (Cond.methodLink RL 95 yX12_lent) ∈ zT := zT_t7 (List.mem_of_getElem? (i := 7) (by decide +kernel)) rfl
theorem wt_7_8 : (Cond.instanceMethod yX12_lent) ∈ zT := zT_t7 (List.mem_of_getElem? (i := 8) (by decide +kernel)) rfl
theorem wt_7_9 : (Cond.selects RX12 yX12_lent yX12_lent) ∈ zT := zT_t7 (List.mem_of_getElem? (i := 9) (by decide +kernel)) rfl
theorem wt_7_10 : (Cond.code yX12_lent cX12_lent 6 (Option.some .int)) ∈ zT := zT_t7 (List.mem_of_getElem? (i := 10) (by decide +kernel)) rfl
theorem wt_7_11 : (Cond.methodLink RL 104 yX12_rise) ∈ zT := zT_t7 (List.mem_of_getElem? (i := 11) (by decide +kernel)) rfl
theorem wt_7_12 : (Cond.instanceMethod yX12_rise) ∈ zT := zT_t7 (List.mem_of_getElem? (i := 12) (by decide +kernel)) rfl
theorem wt_7_13 : (Cond.selects RX12 yX12_rise yX12_rise) ∈ zT := zT_t7 (List.mem_of_getElem? (i := 13) (by decide +kernel)) rfl
theorem wt_7_14 : (Cond.code yX12_rise cX12_rise 4 (Option.some .boolean)) ∈ zT := zT_t7 (List.mem_of_getElem? (i := 14) (by decide +kernel)) rfl
theorem wt_7_15 : (Cond.methodLink RL 109 yX12_odds) ∈ zT := zT_t7 (List.mem_of_getElem? (i := 15) (by decide +kernel)) rfl
theorem wt_7_16 : (Cond.instanceMethod yX12_odds) ∈ zT := zT_t7 (List.mem_of_getElem? (i := 16) (by decide +kernel)) rfl
theorem wt_7_17 : (Cond.selects RX12 yX12_odds yX12_odds) ∈ zT := zT_t7 (List.mem_of_getElem? (i := 17) (by decide +kernel)) rfl
theorem wt_7_18 : (Cond.code yX12_odds cX12_odds 4 (Option.some .long)) ∈ zT := zT_t7 (List.mem_of_getElem? (i := 18) (by decide +kernel)) rfl
theorem wt_7_19 : (Cond.constantLong RX12 313 (-1 : Int64)) ∈ zT := zT_t7 (List.mem_of_getElem? (i := 19) (by decide +kernel)) rfl
theorem wt_7_20 : (Cond.methodLink RX12 315 yX12_laysOdds) ∈ zT := zT_t7 (List.mem_of_getElem? (i := 20) (by decide +kernel)) rfl
theorem wt_7_22 : (Cond.instanceMethod yX12_laysOdds) ∈ zT := zT_t7 (List.mem_of_getElem? (i := 22) (by decide +kernel)) rfl
theorem wt_7_23 : (Cond.code yX12_laysOdds cX12_laysOdds 9 none) ∈ zT := zT_t7 (List.mem_of_getElem? (i := 23) (by decide +kernel)) rfl
theorem wt_7_24 : (Cond.methodLink RL 113 yX12_whose) ∈ zT := zT_t7 (List.mem_of_getElem? (i := 24) (by decide +kernel)) rfl
theorem wt_7_25 : (Cond.instanceMethod yX12_whose) ∈ zT := zT_t7 (List.mem_of_getElem? (i := 25) (by decide +kernel)) rfl
theorem wt_7_26 : (Cond.selects RX12 yX12_whose yX12_whose) ∈ zT := zT_t7 (List.mem_of_getElem? (i := 26) (by decide +kernel)) rfl
theorem wt_7_27 : (Cond.code yX12_whose cX12_whose 10 (Option.some .int)) ∈ zT := zT_t7 (List.mem_of_getElem? (i := 27) (by decide +kernel)) rfl
theorem wt_7_28 : (Cond.methodLink RL 117 yX12_owe) ∈ zT := zT_t7 (List.mem_of_getElem? (i := 28) (by decide +kernel)) rfl
theorem wt_7_29 : (Cond.instanceMethod yX12_owe) ∈ zT := zT_t7 (List.mem_of_getElem? (i := 29) (by decide +kernel)) rfl
theorem wt_7_30 : (Cond.selects RX12 yX12_owe yX12_owe) ∈ zT := zT_t7 (List.mem_of_getElem? (i := 30) (by decide +kernel)) rfl
theorem wt_7_31 : (Cond.code yX12_owe cX12_owe 4 (Option.some .boolean)) ∈ zT := zT_t7 (List.mem_of_getElem? (i := 31) (by decide +kernel)) rfl
theorem wt_7_32 : (Cond.constant RX12 318 (-99999 : Int32)) ∈ zT := zT_t7 (List.mem_of_getElem? (i := 32) (by decide +kernel)) rfl
theorem wt_7_33 : (Cond.methodLink RL 121 yX12_payments) ∈ zT := zT_t7 (List.mem_of_getElem? (i := 33) (by decide +kernel)) rfl
theorem wt_7_34 : (Cond.instanceMethod yX12_payments) ∈ zT := zT_t7 (List.mem_of_getElem? (i := 34) (by decide +kernel)) rfl
theorem wt_7_35 : (Cond.selects RX12 yX12_payments yX12_payments) ∈ zT := zT_t7 (List.mem_of_getElem? (i := 35) (by decide +kernel)) rfl
theorem wt_7_36 : (Cond.code yX12_payments cX12_payments 7 (Option.some .int)) ∈ zT := zT_t7 (List.mem_of_getElem? (i := 36) (by decide +kernel)) rfl
theorem wt_7_37 : (Cond.methodLink RL 131 yX12_image) ∈ zT := zT_t7 (List.mem_of_getElem? (i := 37) (by decide +kernel)) rfl
theorem wt_7_38 : (Cond.instanceMethod yX12_image) ∈ zT := zT_t7 (List.mem_of_getElem? (i := 38) (by decide +kernel)) rfl
theorem wt_7_39 : (Cond.selects RX12 yX12_image yX12_image) ∈ zT := zT_t7 (List.mem_of_getElem? (i := 39) (by decide +kernel)) rfl
theorem wt_7_40 : (Cond.code yX12_image cX12_image 3 (Option.some .boolean)) ∈ zT := zT_t7 (List.mem_of_getElem? (i := 40) (by decide +kernel)) rfl
theorem wt_7_41 : (Cond.methodLink RL 135 yX12_look) ∈ zT := zT_t7 (List.mem_of_getElem? (i := 41) (by decide +kernel)) rfl
theorem wt_7_42 : (Cond.instanceMethod yX12_look) ∈ zT := zT_t7 (List.mem_of_getElem? (i := 42) (by decide +kernel)) rfl
theorem wt_7_43 : (Cond.selects RX12 yX12_look yX12_look) ∈ zT := zT_t7 (List.mem_of_getElem? (i := 43) (by decide +kernel)) rfl
theorem wt_7_44 : (Cond.code yX12_look cX12_look 2 (Option.some .int)) ∈ zT := zT_t7 (List.mem_of_getElem? (i := 44) (by decide +kernel)) rfl
theorem wt_7_45 : (Cond.fieldLink RJ0 15 "java/lang/String" "coder" "B") ∈ zT := zT_t7 (List.mem_of_getElem? (i := 45) (by decide +kernel)) rfl
theorem wt_7_46 : (Cond.fieldLink RJ0 9 "java/lang/String" "value" "[B") ∈ zT := zT_t7 (List.mem_of_getElem? (i := 46) (by decide +kernel)) rfl
theorem wp_0 : (Cond.selects RX7 yX7_begin yX7_begin) ∈ zT := zT_s (List.mem_of_getElem? (i := 0) (by decide +kernel)) rfl
theorem wp_1 : (Cond.selects RX7 yX7_readToken yX7_readToken) ∈ zT := zT_s (List.mem_of_getElem? (i := 1) (by decide +kernel)) rfl
theorem wp_2 : (Cond.selects RX7 yX7_skipBlanks yX7_skipBlanks) ∈ zT := zT_s (List.mem_of_getElem? (i := 2) (by decide +kernel)) rfl
theorem wp_3 : (Cond.selects RX7 yX7_isLetter yX7_isLetter) ∈ zT := zT_s (List.mem_of_getElem? (i := 3) (by decide +kernel)) rfl
theorem wp_4 : (Cond.selects RX7 yX7_readKeyword yX7_readKeyword) ∈ zT := zT_s (List.mem_of_getElem? (i := 4) (by decide +kernel)) rfl
theorem wp_5 : (Cond.selects RX7 yX7_isKeyword yX7_isKeyword) ∈ zT := zT_s (List.mem_of_getElem? (i := 5) (by decide +kernel)) rfl
theorem wp_6 : (Cond.selects RX7 yX7_isDigit yX7_isDigit) ∈ zT := zT_s (List.mem_of_getElem? (i := 6) (by decide +kernel)) rfl
theorem wp_7 : (Cond.selects RX7 yX7_readNumber yX7_readNumber) ∈ zT := zT_s (List.mem_of_getElem? (i := 7) (by decide +kernel)) rfl
theorem wp_8 : (Cond.selects RX7 yX7_judge yX7_judge) ∈ zT := zT_s (List.mem_of_getElem? (i := 8) (by decide +kernel)) rfl
theorem wp_9 : (Cond.selects RX7 yX7_judgeLine yX7_judgeLine) ∈ zT := zT_s (List.mem_of_getElem? (i := 9) (by decide +kernel)) rfl
theorem wp_10 : (Cond.selects RX7 yX7_judgeCondition yX7_judgeCondition) ∈ zT := zT_s (List.mem_of_getElem? (i := 10) (by decide +kernel)) rfl
theorem wp_11 : (Cond.selects RX7 yX7_judgeOperand yX7_judgeOperand) ∈ zT := zT_s (List.mem_of_getElem? (i := 11) (by decide +kernel)) rfl
theorem wp_12 : (Cond.selects RX7 yX7_emit yX7_emit) ∈ zT := zT_s (List.mem_of_getElem? (i := 12) (by decide +kernel)) rfl
theorem wp_13 : (Cond.selects RX7 yX7_push yX7_push) ∈ zT := zT_s (List.mem_of_getElem? (i := 13) (by decide +kernel)) rfl
theorem wp_14 : (Cond.selects RX7 yX7_judgeDivisor yX7_judgeDivisor) ∈ zT := zT_s (List.mem_of_getElem? (i := 14) (by decide +kernel)) rfl
theorem wp_15 : (Cond.selects RX7 yX7_judgeAfterCondition yX7_judgeAfterCondition) ∈ zT := zT_s (List.mem_of_getElem? (i := 15) (by decide +kernel)) rfl
theorem wp_16 : (Cond.selects RX7 yX7_takeOperator yX7_takeOperator) ∈ zT := zT_s (List.mem_of_getElem? (i := 16) (by decide +kernel)) rfl
theorem wp_17 : (Cond.selects RX7 yX7_emitWaiting yX7_emitWaiting) ∈ zT := zT_s (List.mem_of_getElem? (i := 17) (by decide +kernel)) rfl
theorem wp_18 : (Cond.selects RX7 yX7_closeBracket yX7_closeBracket) ∈ zT := zT_s (List.mem_of_getElem? (i := 18) (by decide +kernel)) rfl
theorem wp_19 : (Cond.selects RX7 yX7_endLine yX7_endLine) ∈ zT := zT_s (List.mem_of_getElem? (i := 19) (by decide +kernel)) rfl
theorem wp_20 : (Cond.selects RX7 yX7_judgeAfterWorth yX7_judgeAfterWorth) ∈ zT := zT_s (List.mem_of_getElem? (i := 20) (by decide +kernel)) rfl
theorem wp_21 : (Cond.selects RX7 yX7_judgeComparison yX7_judgeComparison) ∈ zT := zT_s (List.mem_of_getElem? (i := 21) (by decide +kernel)) rfl
theorem wp_22 : (Cond.selects RX4 yX4_standByRule yX4_standByRule) ∈ zT := zT_s (List.mem_of_getElem? (i := 22) (by decide +kernel)) rfl
theorem wp_23 : (Cond.selects RX4 yX4_gatherFacts yX4_gatherFacts) ∈ zT := zT_s (List.mem_of_getElem? (i := 23) (by decide +kernel)) rfl
theorem wp_24 : (Cond.selects RX4 yX4_fewestMondays yX4_fewestMondays) ∈ zT := zT_s (List.mem_of_getElem? (i := 24) (by decide +kernel)) rfl
theorem wp_25 : (Cond.selects RX4 yX4_putFirst yX4_putFirst) ∈ zT := zT_s (List.mem_of_getElem? (i := 25) (by decide +kernel)) rfl
theorem wp_26 : (Cond.selects RX4 yX4_weighLoaves yX4_weighLoaves) ∈ zT := zT_s (List.mem_of_getElem? (i := 26) (by decide +kernel)) rfl
theorem wp_27 : (Cond.selects RX4 yX4_drawBurntPlace yX4_drawBurntPlace) ∈ zT := zT_s (List.mem_of_getElem? (i := 27) (by decide +kernel)) rfl
theorem wp_28 : (Cond.selects RX4 yX4_bake yX4_bake) ∈ zT := zT_s (List.mem_of_getElem? (i := 28) (by decide +kernel)) rfl
theorem wp_29 : (Cond.selects RX4 yX4_woodOf yX4_woodOf) ∈ zT := zT_s (List.mem_of_getElem? (i := 29) (by decide +kernel)) rfl
theorem wp_30 : (Cond.selects RX4 yX4_heatAfter yX4_heatAfter) ∈ zT := zT_s (List.mem_of_getElem? (i := 30) (by decide +kernel)) rfl
theorem wp_31 : (Cond.selects RX4 yX4_clearPlaced yX4_clearPlaced) ∈ zT := zT_s (List.mem_of_getElem? (i := 31) (by decide +kernel)) rfl
theorem wp_32 : (Cond.selects RX4 yX4_gainAt yX4_gainAt) ∈ zT := zT_s (List.mem_of_getElem? (i := 32) (by decide +kernel)) rfl
theorem wp_33 : (Cond.selects RX11 yX11_canSearch yX11_canSearch) ∈ zT := zT_s (List.mem_of_getElem? (i := 33) (by decide +kernel)) rfl
theorem wp_34 : (Cond.selects RX4 yX4_beginSearch yX4_beginSearch) ∈ zT := zT_s (List.mem_of_getElem? (i := 34) (by decide +kernel)) rfl
theorem wp_35 : (Cond.selects RX4 yX4_searchSettled yX4_searchSettled) ∈ zT := zT_s (List.mem_of_getElem? (i := 35) (by decide +kernel)) rfl
theorem wp_36 : (Cond.selects RX4 yX4_noteIfSettled yX4_noteIfSettled) ∈ zT := zT_s (List.mem_of_getElem? (i := 36) (by decide +kernel)) rfl
theorem wp_37 : (Cond.selects RX4 yX4_wouldChange yX4_wouldChange) ∈ zT := zT_s (List.mem_of_getElem? (i := 37) (by decide +kernel)) rfl
theorem wp_38 : (Cond.selects RX4 yX4_step yX4_step) ∈ zT := zT_s (List.mem_of_getElem? (i := 38) (by decide +kernel)) rfl
theorem wp_39 : (Cond.selects RX4 yX4_orderAsNumber yX4_orderAsNumber) ∈ zT := zT_s (List.mem_of_getElem? (i := 39) (by decide +kernel)) rfl
theorem wp_40 : (Cond.selects RX4 yX4_firstToChange yX4_firstToChange) ∈ zT := zT_s (List.mem_of_getElem? (i := 40) (by decide +kernel)) rfl
theorem wp_41 : (Cond.selects RX4 yX4_changePlaces yX4_changePlaces) ∈ zT := zT_s (List.mem_of_getElem? (i := 41) (by decide +kernel)) rfl
theorem wp_42 : (Cond.selects RX4 yX4_searchLeastWood yX4_searchLeastWood) ∈ zT := zT_s (List.mem_of_getElem? (i := 42) (by decide +kernel)) rfl
theorem wp_43 : (Cond.selects RX3 yX3_add yX3_add) ∈ zT := zT_s (List.mem_of_getElem? (i := 43) (by decide +kernel)) rfl
theorem wp_44 : (Cond.selects RX5 yX5_allOf yX5_allOf) ∈ zT := zT_s (List.mem_of_getElem? (i := 44) (by decide +kernel)) rfl
theorem wp_45 : (Cond.selects RX12 yX12_next0 yX12_next0) ∈ zT := zT_s (List.mem_of_getElem? (i := 45) (by decide +kernel)) rfl
theorem wp_46 : (Cond.selects RX12 yX12_see yX12_see) ∈ zT := zT_s (List.mem_of_getElem? (i := 46) (by decide +kernel)) rfl
theorem wp_47 : (Cond.selects RX12 yX12_word yX12_word) ∈ zT := zT_s (List.mem_of_getElem? (i := 47) (by decide +kernel)) rfl
theorem wp_48 : (Cond.selects RX12 yX12_is yX12_is) ∈ zT := zT_s (List.mem_of_getElem? (i := 48) (by decide +kernel)) rfl
theorem wp_49 : (Cond.selects RX12 yX12_nameWord yX12_nameWord) ∈ zT := zT_s (List.mem_of_getElem? (i := 49) (by decide +kernel)) rfl
theorem wp_50 : (Cond.selects RX12 yX12_aLine yX12_aLine) ∈ zT := zT_s (List.mem_of_getElem? (i := 50) (by decide +kernel)) rfl
theorem wp_51 : (Cond.selects RX12 yX12_bad yX12_bad) ∈ zT := zT_s (List.mem_of_getElem? (i := 51) (by decide +kernel)) rfl
theorem wp_52 : (Cond.selects RX12 yX12_sumUp yX12_sumUp) ∈ zT := zT_s (List.mem_of_getElem? (i := 52) (by decide +kernel)) rfl
theorem wp_53 : (Cond.selects RX12 yX12_product yX12_product) ∈ zT := zT_s (List.mem_of_getElem? (i := 53) (by decide +kernel)) rfl
theorem wp_54 : (Cond.selects RX12 yX12_unit yX12_unit) ∈ zT := zT_s (List.mem_of_getElem? (i := 54) (by decide +kernel)) rfl
theorem wp_55 : (Cond.selects RX12 yX12_lay yX12_lay) ∈ zT := zT_s (List.mem_of_getElem? (i := 55) (by decide +kernel)) rfl
theorem wp_56 : (Cond.selects RX12 yX12_any yX12_any) ∈ zT := zT_s (List.mem_of_getElem? (i := 56) (by decide +kernel)) rfl
theorem wp_57 : (Cond.selects RX12 yX12_every yX12_every) ∈ zT := zT_s (List.mem_of_getElem? (i := 57) (by decide +kernel)) rfl
theorem wp_58 : (Cond.selects RX12 yX12_oneTest yX12_oneTest) ∈ zT := zT_s (List.mem_of_getElem? (i := 58) (by decide +kernel)) rfl
theorem wp_59 : (Cond.selects RX12 yX12_opens yX12_opens) ∈ zT := zT_s (List.mem_of_getElem? (i := 59) (by decide +kernel)) rfl
theorem wp_60 : (Cond.selects RX12 yX12_need yX12_need) ∈ zT := zT_s (List.mem_of_getElem? (i := 60) (by decide +kernel)) rfl
theorem wp_61 : (Cond.selects RX12 yX12_takesRow yX12_takesRow) ∈ zT := zT_s (List.mem_of_getElem? (i := 61) (by decide +kernel)) rfl
theorem wp_62 : (Cond.selects RX12 yX12_forgets yX12_forgets) ∈ zT := zT_s (List.mem_of_getElem? (i := 62) (by decide +kernel)) rfl
theorem wp_63 : (Cond.selects RX12 yX12_isHouse yX12_isHouse) ∈ zT := zT_s (List.mem_of_getElem? (i := 63) (by decide +kernel)) rfl
theorem wp_64 : (Cond.selects RX12 yX12_own yX12_own) ∈ zT := zT_s (List.mem_of_getElem? (i := 64) (by decide +kernel)) rfl
theorem wp_65 : (Cond.selects RX12 yX12_adds yX12_adds) ∈ zT := zT_s (List.mem_of_getElem? (i := 65) (by decide +kernel)) rfl
theorem wp_66 : (Cond.selects RX12 yX12_laysOrder yX12_laysOrder) ∈ zT := zT_s (List.mem_of_getElem? (i := 66) (by decide +kernel)) rfl
theorem wp_67 : (Cond.selects RX12 yX12_worth yX12_worth) ∈ zT := zT_s (List.mem_of_getElem? (i := 67) (by decide +kernel)) rfl
theorem wp_68 : (Cond.selects RX12 yX12_net yX12_net) ∈ zT := zT_s (List.mem_of_getElem? (i := 68) (by decide +kernel)) rfl
theorem wp_69 : (Cond.selects RX12 yX12_debt yX12_debt) ∈ zT := zT_s (List.mem_of_getElem? (i := 69) (by decide +kernel)) rfl
theorem wp_70 : (Cond.selects RX12 yX12_comesTo yX12_comesTo) ∈ zT := zT_s (List.mem_of_getElem? (i := 70) (by decide +kernel)) rfl
theorem wp_71 : (Cond.selects RX12 yX12_aDay yX12_aDay) ∈ zT := zT_s (List.mem_of_getElem? (i := 71) (by decide +kernel)) rfl
theorem wp_72 : (Cond.selects RX12 yX12_draw yX12_draw) ∈ zT := zT_s (List.mem_of_getElem? (i := 72) (by decide +kernel)) rfl
theorem wp_73 : (Cond.selects RX12 yX12_loaf yX12_loaf) ∈ zT := zT_s (List.mem_of_getElem? (i := 73) (by decide +kernel)) rfl
theorem wp_74 : (Cond.selects RX12 yX12_heats yX12_heats) ∈ zT := zT_s (List.mem_of_getElem? (i := 74) (by decide +kernel)) rfl
theorem wp_75 : (Cond.selects RX12 yX12_bakes yX12_bakes) ∈ zT := zT_s (List.mem_of_getElem? (i := 75) (by decide +kernel)) rfl
theorem wp_76 : (Cond.selects RX12 yX12_gainAt yX12_gainAt) ∈ zT := zT_s (List.mem_of_getElem? (i := 76) (by decide +kernel)) rfl
theorem wp_77 : (Cond.selects RX12 yX12_isTold yX12_isTold) ∈ zT := zT_s (List.mem_of_getElem? (i := 77) (by decide +kernel)) rfl
theorem wp_78 : (Cond.selects RX12 yX12_goesThrough yX12_goesThrough) ∈ zT := zT_s (List.mem_of_getElem? (i := 78) (by decide +kernel)) rfl
theorem wp_79 : (Cond.selects RX12 yX12_firstChange yX12_firstChange) ∈ zT := zT_s (List.mem_of_getElem? (i := 79) (by decide +kernel)) rfl
theorem wp_80 : (Cond.selects RX12 yX12_wouldChange yX12_wouldChange) ∈ zT := zT_s (List.mem_of_getElem? (i := 80) (by decide +kernel)) rfl
theorem wp_81 : (Cond.selects RX12 yX12_exchanges yX12_exchanges) ∈ zT := zT_s (List.mem_of_getElem? (i := 81) (by decide +kernel)) rfl
theorem wp_82 : (Cond.selects RX12 yX12_isRow yX12_isRow) ∈ zT := zT_s (List.mem_of_getElem? (i := 82) (by decide +kernel)) rfl
theorem wp_83 : (Cond.selects RX12 yX12_isLeaven yX12_isLeaven) ∈ zT := zT_s (List.mem_of_getElem? (i := 83) (by decide +kernel)) rfl
theorem wp_84 : (Cond.selects RX12 yX12_ofLeaven yX12_ofLeaven) ∈ zT := zT_s (List.mem_of_getElem? (i := 84) (by decide +kernel)) rfl
theorem wp_85 : (Cond.selects RX12 yX12_laysParts yX12_laysParts) ∈ zT := zT_s (List.mem_of_getElem? (i := 85) (by decide +kernel)) rfl
theorem wp_86 : (Cond.selects RX12 yX12_isLed yX12_isLed) ∈ zT := zT_s (List.mem_of_getElem? (i := 86) (by decide +kernel)) rfl
theorem wp_87 : (Cond.selects RX12 yX12_laysOdds yX12_laysOdds) ∈ zT := zT_s (List.mem_of_getElem? (i := 87) (by decide +kernel)) rfl
theorem zFX0 : ∀ w ∈ u_ws RX0 TX0 6, w ∈ zT := fun w h => zT_of (List.mem_append_right _ ((List.all_eq_true.mp (show (u_ws RX0 TX0 6).all (fun w => decide (w ∈ tables_1)) = true by decide +kernel) w h) |> of_decide_eq_true)) ((List.all_eq_true.mp (show (u_ws RX0 TX0 6).all goodWord = true by decide +kernel)) w h)
theorem zFX1 : ∀ w ∈ u_ws RX1 TX1 3, w ∈ zT := fun w h => zT_of (List.mem_append_right _ ((List.all_eq_true.mp (show (u_ws RX1 TX1 3).all (fun w => decide (w ∈ tables_1)) = true by decide +kernel) w h) |> of_decide_eq_true)) ((List.all_eq_true.mp (show (u_ws RX1 TX1 3).all goodWord = true by decide +kernel)) w h)
theorem zFX2 : ∀ w ∈ u_ws RX2 TX2 7, w ∈ zT := fun w h => zT_of (List.mem_append_right _ ((List.all_eq_true.mp (show (u_ws RX2 TX2 7).all (fun w => decide (w ∈ tables_1)) = true by decide +kernel) w h) |> of_decide_eq_true)) ((List.all_eq_true.mp (show (u_ws RX2 TX2 7).all goodWord = true by decide +kernel)) w h)
theorem zFX3 : ∀ w ∈ u_ws RX3 TX3 7, w ∈ zT := fun w h => zT_of (List.mem_append_right _ ((List.all_eq_true.mp (show (u_ws RX3 TX3 7).all (fun w => decide (w ∈ tables_1)) = true by decide +kernel) w h) |> of_decide_eq_true)) ((List.all_eq_true.mp (show (u_ws RX3 TX3 7).all goodWord = true by decide +kernel)) w h)
theorem zFX4 : ∀ w ∈ u_ws RX4 TX4 14, w ∈ zT := fun w h => zT_of (List.mem_append_right _ ((List.all_eq_true.mp (show (u_ws RX4 TX4 14).all (fun w => decide (w ∈ tables_1)) = true by decide +kernel) w h) |> of_decide_eq_true)) ((List.all_eq_true.mp (show (u_ws RX4 TX4 14).all goodWord = true by decide +kernel)) w h)
theorem zFX5 : ∀ w ∈ u_ws RX5 TX5 1, w ∈ zT := fun w h => zT_of (List.mem_append_right _ ((List.all_eq_true.mp (show (u_ws RX5 TX5 1).all (fun w => decide (w ∈ tables_1)) = true by decide +kernel) w h) |> of_decide_eq_true)) ((List.all_eq_true.mp (show (u_ws RX5 TX5 1).all goodWord = true by decide +kernel)) w h)
theorem zFX6 : ∀ w ∈ u_ws RX6 TX6 3, w ∈ zT := fun w h => zT_of (List.mem_append_right _ ((List.all_eq_true.mp (show (u_ws RX6 TX6 3).all (fun w => decide (w ∈ tables_1)) = true by decide +kernel) w h) |> of_decide_eq_true)) ((List.all_eq_true.mp (show (u_ws RX6 TX6 3).all goodWord = true by decide +kernel)) w h)
theorem zFX7 : ∀ w ∈ u_ws RX7 TX7 16, w ∈ zT := fun w h => zT_of (List.mem_append_right _ ((List.all_eq_true.mp (show (u_ws RX7 TX7 16).all (fun w => decide (w ∈ tables_1)) = true by decide +kernel) w h) |> of_decide_eq_true)) ((List.all_eq_true.mp (show (u_ws RX7 TX7 16).all goodWord = true by decide +kernel)) w h)
theorem zFX8 : ∀ w ∈ u_ws RX8 TX8 3, w ∈ zT := fun w h => zT_of (List.mem_append_right _ ((List.all_eq_true.mp (show (u_ws RX8 TX8 3).all (fun w => decide (w ∈ tables_1)) = true by decide +kernel) w h) |> of_decide_eq_true)) ((List.all_eq_true.mp (show (u_ws RX8 TX8 3).all goodWord = true by decide +kernel)) w h)
theorem zFX9 : ∀ w ∈ u_ws RX9 TX9 2, w ∈ zT := fun w h => zT_of (List.mem_append_right _ ((List.all_eq_true.mp (show (u_ws RX9 TX9 2).all (fun w => decide (w ∈ tables_1)) = true by decide +kernel) w h) |> of_decide_eq_true)) ((List.all_eq_true.mp (show (u_ws RX9 TX9 2).all goodWord = true by decide +kernel)) w h)
theorem zFX10 : ∀ w ∈ u_ws RX10 TX10 12, w ∈ zT := fun w h => zT_of (List.mem_append_right _ ((List.all_eq_true.mp (show (u_ws RX10 TX10 12).all (fun w => decide (w ∈ tables_1)) = true by decide +kernel) w h) |> of_decide_eq_true)) ((List.all_eq_true.mp (show (u_ws RX10 TX10 12).all goodWord = true by decide +kernel)) w h)
theorem zFX11 : ∀ w ∈ u_ws RX11 TX11 8, w ∈ zT := fun w h => zT_of (List.mem_append_right _ ((List.all_eq_true.mp (show (u_ws RX11 TX11 8).all (fun w => decide (w ∈ tables_1)) = true by decide +kernel) w h) |> of_decide_eq_true)) ((List.all_eq_true.mp (show (u_ws RX11 TX11 8).all goodWord = true by decide +kernel)) w h)
theorem zFX12 : ∀ w ∈ u_ws RX12 TX12 36, w ∈ zT := fun w h => zT_of (List.mem_append_right _ ((List.all_eq_true.mp (show (u_ws RX12 TX12 36).all (fun w => decide (w ∈ tables_1)) = true by decide +kernel) w h) |> of_decide_eq_true)) ((List.all_eq_true.mp (show (u_ws RX12 TX12 36).all goodWord = true by decide +kernel)) w h)
