theorem bw_t0 {w : Cond} (h : w ∈ tables_1) : w ∈ lw_tbl := List.mem_append_right _ h
theorem bw_t1 {w : Cond} (h : w ∈ tables_1_1) : w ∈ lw_tbl := bw_t0 (List.mem_append_left _ h)
theorem bw_t2 {w : Cond} (h : w ∈ tables_1_2) : w ∈ lw_tbl := bw_t0 (List.mem_append_right _ (List.mem_append_left _ h))
theorem bw_t3 {w : Cond} (h : w ∈ tables_1_3) : w ∈ lw_tbl := bw_t0 (List.mem_append_right _ (List.mem_append_right _ (List.mem_append_left _ h)))
theorem bw_t4 {w : Cond} (h : w ∈ tables_1_4) : w ∈ lw_tbl := bw_t0 (List.mem_append_right _ (List.mem_append_right _ (List.mem_append_right _ (List.mem_append_left _ h))))
theorem bw_t5 {w : Cond} (h : w ∈ tables_1_5) : w ∈ lw_tbl := bw_t0 (List.mem_append_right _ (List.mem_append_right _ (List.mem_append_right _ (List.mem_append_right _ h))))
def bw_tbl : List Cond := lw_tbl.filter goodWord
theorem bw_tg {w : Cond} (h : w ∈ lw_tbl) (hg : goodWord w = true) : w ∈ bw_tbl := List.mem_filter.mpr ⟨h, hg⟩
theorem bw_tp {q : MethodName × Nat} (h : q ∈ lw_privs) : Cond.selects q.1.cls q.1 q.1 ∈ lw_tbl := List.mem_append_left _ (List.mem_map.mpr ⟨q, h, rfl⟩)
set_option maxRecDepth 20000 in
theorem mw_0 : Cond.initialized "BlowerBreathLaw" ∈ bw_tbl := bw_tg (bw_t1 (List.mem_of_getElem? (i := 0) (by decide +kernel))) rfl
set_option maxRecDepth 20000 in
theorem mw_1 : Cond.initialized "BlowerBreath" ∈ bw_tbl := bw_tg (bw_t1 (List.mem_of_getElem? (i := 1) (by decide +kernel))) rfl
set_option maxRecDepth 20000 in
theorem mw_2 : Cond.initialized "BlowerBreath$Reader" ∈ bw_tbl := bw_tg (bw_t1 (List.mem_of_getElem? (i := 2) (by decide +kernel))) rfl
set_option maxRecDepth 20000 in
theorem mw_3 : Cond.initialized "BlowerBreath$Town" ∈ bw_tbl := bw_tg (bw_t1 (List.mem_of_getElem? (i := 3) (by decide +kernel))) rfl
set_option maxRecDepth 20000 in
theorem mw_4 : Cond.initialized "BlowerBreath$Deeds" ∈ bw_tbl := bw_tg (bw_t1 (List.mem_of_getElem? (i := 4) (by decide +kernel))) rfl
set_option maxRecDepth 20000 in
theorem mw_5 : Cond.initialized "java/util/Arrays" ∈ bw_tbl := bw_tg (bw_t1 (List.mem_of_getElem? (i := 5) (by decide +kernel))) rfl
set_option maxRecDepth 20000 in
theorem mw_6 : Cond.initialized "BlowerBreathModel" ∈ bw_tbl := bw_tg (bw_t1 (List.mem_of_getElem? (i := 6) (by decide +kernel))) rfl
set_option maxRecDepth 20000 in
theorem mw_7 : Cond.initialized "java/lang/System" ∈ bw_tbl := bw_tg (bw_t1 (List.mem_of_getElem? (i := 7) (by decide +kernel))) rfl
set_option maxRecDepth 20000 in
theorem mw_8 : Cond.initialized "BlowerBreath$Kind" ∈ bw_tbl := bw_tg (bw_t1 (List.mem_of_getElem? (i := 8) (by decide +kernel))) rfl
set_option maxRecDepth 20000 in
theorem mw_9 : Cond.initialized "java/lang/Math" ∈ bw_tbl := bw_tg (bw_t1 (List.mem_of_getElem? (i := 9) (by decide +kernel))) rfl
set_option maxRecDepth 20000 in
theorem mw_10 : Cond.initialized "java/lang/Integer" ∈ bw_tbl := bw_tg (bw_t1 (List.mem_of_getElem? (i := 10) (by decide +kernel))) rfl
set_option maxRecDepth 20000 in
theorem mw_11 : Cond.classLink "BlowerBreathLaw" 7 "BlowerBreath" ∈ bw_tbl := bw_tg (bw_t1 (List.mem_of_getElem? (i := 11) (by decide +kernel))) rfl
set_option maxRecDepth 20000 in
theorem mw_12 : Cond.instantiable "BlowerBreath" 17 ∈ bw_tbl := bw_tg (bw_t1 (List.mem_of_getElem? (i := 12) (by decide +kernel))) rfl
set_option maxRecDepth 20000 in
theorem mw_13 : Cond.methodLink "BlowerBreathLaw" 9 yX4_init ∈ bw_tbl := bw_tg (bw_t1 (List.mem_of_getElem? (i := 13) (by decide +kernel))) rfl
set_option maxRecDepth 20000 in
theorem mw_14 : Cond.instanceMethod yX4_init ∈ bw_tbl := bw_tg (bw_t1 (List.mem_of_getElem? (i := 14) (by decide +kernel))) rfl
set_option maxRecDepth 20000 in
theorem mw_15 : Cond.code yX4_init cX4_init 2 none ∈ bw_tbl := bw_tg (bw_t1 (List.mem_of_getElem? (i := 15) rfl)) rfl
set_option maxRecDepth 20000 in
theorem mw_16 : Cond.methodLink "BlowerBreath" 1 objectInit ∈ bw_tbl := bw_tg (bw_t1 (List.mem_of_getElem? (i := 16) (by decide +kernel))) rfl
set_option maxRecDepth 20000 in
theorem mw_17 : Cond.instanceMethod objectInit ∈ bw_tbl := bw_tg (bw_t1 (List.mem_of_getElem? (i := 17) (by decide +kernel))) rfl
set_option maxRecDepth 20000 in
theorem mw_18 : Cond.code objectInit object_method_1_code 1 none ∈ bw_tbl := bw_tg (bw_t1 (List.mem_of_getElem? (i := 18) rfl)) rfl
set_option maxRecDepth 20000 in
theorem mw_19 : Cond.classLink "BlowerBreath" 9 "[[I" ∈ bw_tbl := bw_tg (bw_t1 (List.mem_of_getElem? (i := 19) (by decide +kernel))) rfl
set_option maxRecDepth 20000 in
theorem mw_20 : Cond.arrayOver (FieldType.array FieldType.int) ∈ lw_tbl := bw_t1 (List.mem_of_getElem? (i := 20) (by decide +kernel))
set_option maxRecDepth 20000 in
theorem mw_21 : Cond.classLink "BlowerBreath" 18 "[[B" ∈ bw_tbl := bw_tg (bw_t1 (List.mem_of_getElem? (i := 21) (by decide +kernel))) rfl
set_option maxRecDepth 20000 in
theorem mw_22 : Cond.arrayOver (FieldType.array FieldType.byte) ∈ lw_tbl := bw_t1 (List.mem_of_getElem? (i := 22) (by decide +kernel))
set_option maxRecDepth 20000 in
theorem mw_23 : Cond.classLink "BlowerBreath" 26 "BlowerBreath$Reader" ∈ bw_tbl := bw_tg (bw_t1 (List.mem_of_getElem? (i := 23) (by decide +kernel))) rfl
set_option maxRecDepth 20000 in
theorem mw_24 : Cond.instantiable "BlowerBreath$Reader" 3 ∈ bw_tbl := bw_tg (bw_t1 (List.mem_of_getElem? (i := 24) (by decide +kernel))) rfl
set_option maxRecDepth 20000 in
theorem mw_25 : Cond.methodLinkNest "BlowerBreath" 28 yX2_init "BlowerBreath" ∈ lw_tbl := bw_t1 (List.mem_of_getElem? (i := 25) (by decide +kernel))
set_option maxRecDepth 20000 in
theorem mw_26 : Cond.instanceMethod yX2_init ∈ bw_tbl := bw_tg (bw_t1 (List.mem_of_getElem? (i := 26) (by decide +kernel))) rfl
set_option maxRecDepth 20000 in
theorem mw_27 : Cond.code yX2_init cX2_init 1 none ∈ bw_tbl := bw_tg (bw_t1 (List.mem_of_getElem? (i := 27) rfl)) rfl
set_option maxRecDepth 20000 in
theorem mw_28 : Cond.methodLink "BlowerBreath$Reader" 3 objectInit ∈ bw_tbl := bw_tg (bw_t1 (List.mem_of_getElem? (i := 28) (by decide +kernel))) rfl
set_option maxRecDepth 20000 in
theorem mw_29 : Cond.fieldLink "BlowerBreath$Reader" 9 "BlowerBreath$Reader" "bytes" "[B" ∈ bw_tbl := bw_tg (bw_t1 (List.mem_of_getElem? (i := 29) (by decide +kernel))) rfl
set_option maxRecDepth 20000 in
theorem mw_30 : Cond.fieldLink "BlowerBreath$Reader" 15 "BlowerBreath$Reader" "size" "I" ∈ bw_tbl := bw_tg (bw_t1 (List.mem_of_getElem? (i := 30) (by decide +kernel))) rfl
set_option maxRecDepth 20000 in
theorem mw_31 : Cond.fieldLink "BlowerBreath$Reader" 19 "BlowerBreath$Reader" "place" "I" ∈ bw_tbl := bw_tg (bw_t1 (List.mem_of_getElem? (i := 31) (by decide +kernel))) rfl
set_option maxRecDepth 20000 in
theorem mw_32 : Cond.lays "BlowerBreath$Reader" "BlowerBreath$Reader" "bytes" "[B" ∈ bw_tbl := bw_tg (bw_t1 (List.mem_of_getElem? (i := 32) (by decide +kernel))) rfl
set_option maxRecDepth 20000 in
theorem mw_34 : Cond.lays "BlowerBreath$Reader" "BlowerBreath$Reader" "size" "I" ∈ bw_tbl := bw_tg (bw_t1 (List.mem_of_getElem? (i := 34) (by decide +kernel))) rfl
set_option maxRecDepth 20000 in
theorem mw_36 : Cond.lays "BlowerBreath$Reader" "BlowerBreath$Reader" "place" "I" ∈ bw_tbl := bw_tg (bw_t1 (List.mem_of_getElem? (i := 36) (by decide +kernel))) rfl
set_option maxRecDepth 20000 in
theorem mw_39 : Cond.arrayClass FieldType.int ∈ bw_tbl := bw_tg (bw_t1 (List.mem_of_getElem? (i := 39) (by decide +kernel))) rfl
set_option maxRecDepth 20000 in
theorem mw_40 : Cond.arrayClass FieldType.byte ∈ bw_tbl := bw_tg (bw_t1 (List.mem_of_getElem? (i := 40) (by decide +kernel))) rfl
set_option maxRecDepth 20000 in
theorem mw_41 : Cond.classLink "BlowerBreath" 33 "BlowerBreath$Town" ∈ bw_tbl := bw_tg (bw_t1 (List.mem_of_getElem? (i := 41) (by decide +kernel))) rfl
set_option maxRecDepth 20000 in
theorem mw_42 : Cond.instantiable "BlowerBreath$Town" 13 ∈ bw_tbl := bw_tg (bw_t1 (List.mem_of_getElem? (i := 42) (by decide +kernel))) rfl
set_option maxRecDepth 20000 in
theorem mw_43 : Cond.methodLinkNest "BlowerBreath" 35 yX3_init "BlowerBreath" ∈ lw_tbl := bw_t1 (List.mem_of_getElem? (i := 43) (by decide +kernel))
set_option maxRecDepth 20000 in
theorem mw_44 : Cond.instanceMethod yX3_init ∈ bw_tbl := bw_tg (bw_t1 (List.mem_of_getElem? (i := 44) (by decide +kernel))) rfl
set_option maxRecDepth 20000 in
theorem mw_45 : Cond.code yX3_init cX3_init 1 none ∈ bw_tbl := bw_tg (bw_t1 (List.mem_of_getElem? (i := 45) rfl)) rfl
set_option maxRecDepth 20000 in
theorem mw_46 : Cond.methodLink "BlowerBreath$Town" 1 objectInit ∈ bw_tbl := bw_tg (bw_t1 (List.mem_of_getElem? (i := 46) (by decide +kernel))) rfl
set_option maxRecDepth 20000 in
theorem mw_47 : Cond.fieldLink "BlowerBreath$Town" 7 "BlowerBreath$Town" "pipes" "I" ∈ bw_tbl := bw_tg (bw_t1 (List.mem_of_getElem? (i := 47) (by decide +kernel))) rfl
set_option maxRecDepth 20000 in
theorem mw_48 : Cond.fieldLink "BlowerBreath$Reader" 50 "BlowerBreath$Town" "pipes" "I" ∈ bw_tbl := bw_tg (bw_t1 (List.mem_of_getElem? (i := 48) (by decide +kernel))) rfl
set_option maxRecDepth 20000 in
theorem mw_49 : Cond.fieldLink "BlowerBreath" 128 "BlowerBreath$Town" "pipes" "I" ∈ bw_tbl := bw_tg (bw_t1 (List.mem_of_getElem? (i := 49) (by decide +kernel))) rfl
set_option maxRecDepth 20000 in
theorem mw_50 : Cond.fieldLink "BlowerBreath$Town" 13 "BlowerBreath$Town" "firstAir" "I" ∈ bw_tbl := bw_tg (bw_t1 (List.mem_of_getElem? (i := 50) (by decide +kernel))) rfl
set_option maxRecDepth 20000 in
theorem mw_51 : Cond.fieldLink "BlowerBreath$Town" 16 "BlowerBreath$Town" "firstStroke" "I" ∈ bw_tbl := bw_tg (bw_t1 (List.mem_of_getElem? (i := 51) (by decide +kernel))) rfl
set_option maxRecDepth 20000 in
theorem mw_52 : Cond.fieldLink "BlowerBreath$Town" 19 "BlowerBreath$Town" "air" "I" ∈ bw_tbl := bw_tg (bw_t1 (List.mem_of_getElem? (i := 52) (by decide +kernel))) rfl
set_option maxRecDepth 20000 in
theorem mw_53 : Cond.fieldLink "BlowerBreath" 152 "BlowerBreath$Town" "air" "I" ∈ bw_tbl := bw_tg (bw_t1 (List.mem_of_getElem? (i := 53) (by decide +kernel))) rfl
set_option maxRecDepth 20000 in
theorem mw_54 : Cond.fieldLink "BlowerBreath$Town" 22 "BlowerBreath$Town" "stroke" "I" ∈ bw_tbl := bw_tg (bw_t1 (List.mem_of_getElem? (i := 54) (by decide +kernel))) rfl
set_option maxRecDepth 20000 in
theorem mw_55 : Cond.fieldLink "BlowerBreath" 175 "BlowerBreath$Town" "stroke" "I" ∈ bw_tbl := bw_tg (bw_t1 (List.mem_of_getElem? (i := 55) (by decide +kernel))) rfl
set_option maxRecDepth 20000 in
theorem mw_56 : Cond.fieldLink "BlowerBreath$Town" 25 "BlowerBreath$Town" "number" "I" ∈ bw_tbl := bw_tg (bw_t1 (List.mem_of_getElem? (i := 56) (by decide +kernel))) rfl
set_option maxRecDepth 20000 in
theorem mw_57 : Cond.fieldLink "BlowerBreath" 163 "BlowerBreath$Town" "number" "I" ∈ bw_tbl := bw_tg (bw_t1 (List.mem_of_getElem? (i := 57) (by decide +kernel))) rfl
set_option maxRecDepth 20000 in
theorem mw_58 : Cond.fieldLink "BlowerBreath$Town" 28 "BlowerBreath$Town" "cutSet" "I" ∈ bw_tbl := bw_tg (bw_t1 (List.mem_of_getElem? (i := 58) (by decide +kernel))) rfl
set_option maxRecDepth 20000 in
theorem mw_59 : Cond.fieldLink "BlowerBreath" 204 "BlowerBreath$Town" "cutSet" "I" ∈ bw_tbl := bw_tg (bw_t1 (List.mem_of_getElem? (i := 59) (by decide +kernel))) rfl
set_option maxRecDepth 20000 in
theorem mw_60 : Cond.fieldLink "BlowerBreath$Town" 31 "BlowerBreath$Town" "leakSet" "I" ∈ bw_tbl := bw_tg (bw_t1 (List.mem_of_getElem? (i := 60) (by decide +kernel))) rfl
set_option maxRecDepth 20000 in
theorem mw_61 : Cond.fieldLink "BlowerBreath" 265 "BlowerBreath$Town" "leakSet" "I" ∈ bw_tbl := bw_tg (bw_t1 (List.mem_of_getElem? (i := 61) (by decide +kernel))) rfl
set_option maxRecDepth 20000 in
theorem mw_62 : Cond.fieldLink "BlowerBreath$Town" 34 "BlowerBreath$Town" "kind" "[I" ∈ bw_tbl := bw_tg (bw_t1 (List.mem_of_getElem? (i := 62) (by decide +kernel))) rfl
set_option maxRecDepth 20000 in
theorem mw_63 : Cond.fieldLink "BlowerBreath" 139 "BlowerBreath$Town" "kind" "[I" ∈ bw_tbl := bw_tg (bw_t1 (List.mem_of_getElem? (i := 63) (by decide +kernel))) rfl
set_option maxRecDepth 20000 in
theorem mw_64 : Cond.fieldLink "BlowerBreath$Town" 38 "BlowerBreath$Town" "from" "[I" ∈ bw_tbl := bw_tg (bw_t1 (List.mem_of_getElem? (i := 64) (by decide +kernel))) rfl
set_option maxRecDepth 20000 in
theorem mw_65 : Cond.fieldLink "BlowerBreath" 292 "BlowerBreath$Town" "from" "[I" ∈ bw_tbl := bw_tg (bw_t1 (List.mem_of_getElem? (i := 65) (by decide +kernel))) rfl
set_option maxRecDepth 20000 in
theorem mw_66 : Cond.fieldLink "BlowerBreath$Town" 41 "BlowerBreath$Town" "need" "[I" ∈ bw_tbl := bw_tg (bw_t1 (List.mem_of_getElem? (i := 66) (by decide +kernel))) rfl
set_option maxRecDepth 20000 in
theorem mw_67 : Cond.fieldLink "BlowerBreath" 149 "BlowerBreath$Town" "need" "[I" ∈ bw_tbl := bw_tg (bw_t1 (List.mem_of_getElem? (i := 67) (by decide +kernel))) rfl
set_option maxRecDepth 20000 in
theorem mw_68 : Cond.fieldLink "BlowerBreath$Town" 44 "BlowerBreath$Town" "saved" "[I" ∈ bw_tbl := bw_tg (bw_t1 (List.mem_of_getElem? (i := 68) (by decide +kernel))) rfl
set_option maxRecDepth 20000 in
theorem mw_69 : Cond.fieldLink "BlowerBreath" 146 "BlowerBreath$Town" "saved" "[I" ∈ bw_tbl := bw_tg (bw_t1 (List.mem_of_getElem? (i := 69) (by decide +kernel))) rfl
set_option maxRecDepth 20000 in
theorem mw_70 : Cond.fieldLink "BlowerBreath$Town" 47 "BlowerBreath$Town" "said" "[I" ∈ bw_tbl := bw_tg (bw_t1 (List.mem_of_getElem? (i := 70) (by decide +kernel))) rfl
set_option maxRecDepth 20000 in
theorem mw_71 : Cond.fieldLink "BlowerBreath" 195 "BlowerBreath$Town" "said" "[I" ∈ bw_tbl := bw_tg (bw_t1 (List.mem_of_getElem? (i := 71) (by decide +kernel))) rfl
set_option maxRecDepth 20000 in
theorem mw_72 : Cond.lays "BlowerBreath$Town" "BlowerBreath$Town" "pipes" "I" ∈ bw_tbl := bw_tg (bw_t1 (List.mem_of_getElem? (i := 72) (by decide +kernel))) rfl
set_option maxRecDepth 20000 in
theorem mw_74 : Cond.lays "BlowerBreath$Town" "BlowerBreath$Town" "firstAir" "I" ∈ bw_tbl := bw_tg (bw_t1 (List.mem_of_getElem? (i := 74) (by decide +kernel))) rfl
set_option maxRecDepth 20000 in
theorem mw_76 : Cond.lays "BlowerBreath$Town" "BlowerBreath$Town" "firstStroke" "I" ∈ bw_tbl := bw_tg (bw_t1 (List.mem_of_getElem? (i := 76) (by decide +kernel))) rfl
set_option maxRecDepth 20000 in
theorem mw_78 : Cond.lays "BlowerBreath$Town" "BlowerBreath$Town" "air" "I" ∈ bw_tbl := bw_tg (bw_t1 (List.mem_of_getElem? (i := 78) (by decide +kernel))) rfl
set_option maxRecDepth 20000 in
theorem mw_80 : Cond.lays "BlowerBreath$Town" "BlowerBreath$Town" "stroke" "I" ∈ bw_tbl := bw_tg (bw_t1 (List.mem_of_getElem? (i := 80) (by decide +kernel))) rfl
set_option maxRecDepth 20000 in
theorem mw_82 : Cond.lays "BlowerBreath$Town" "BlowerBreath$Town" "number" "I" ∈ bw_tbl := bw_tg (bw_t1 (List.mem_of_getElem? (i := 82) (by decide +kernel))) rfl
set_option maxRecDepth 20000 in
theorem mw_84 : Cond.lays "BlowerBreath$Town" "BlowerBreath$Town" "cutSet" "I" ∈ bw_tbl := bw_tg (bw_t1 (List.mem_of_getElem? (i := 84) (by decide +kernel))) rfl
set_option maxRecDepth 20000 in
theorem mw_86 : Cond.lays "BlowerBreath$Town" "BlowerBreath$Town" "leakSet" "I" ∈ bw_tbl := bw_tg (bw_t1 (List.mem_of_getElem? (i := 86) (by decide +kernel))) rfl
set_option maxRecDepth 20000 in
theorem mw_88 : Cond.laysFinal "BlowerBreath$Town" "BlowerBreath$Town" "kind" "[I" ∈ bw_tbl := bw_tg (bw_t1 (List.mem_of_getElem? (i := 88) (by decide +kernel))) rfl
set_option maxRecDepth 20000 in
theorem mw_90 : Cond.laysFinal "BlowerBreath$Town" "BlowerBreath$Town" "from" "[I" ∈ bw_tbl := bw_tg (bw_t1 (List.mem_of_getElem? (i := 90) (by decide +kernel))) rfl
set_option maxRecDepth 20000 in
theorem mw_92 : Cond.laysFinal "BlowerBreath$Town" "BlowerBreath$Town" "need" "[I" ∈ bw_tbl := bw_tg (bw_t1 (List.mem_of_getElem? (i := 92) (by decide +kernel))) rfl
set_option maxRecDepth 20000 in
theorem mw_94 : Cond.laysFinal "BlowerBreath$Town" "BlowerBreath$Town" "saved" "[I" ∈ bw_tbl := bw_tg (bw_t1 (List.mem_of_getElem? (i := 94) (by decide +kernel))) rfl
set_option maxRecDepth 20000 in
theorem mw_96 : Cond.laysFinal "BlowerBreath$Town" "BlowerBreath$Town" "said" "[I" ∈ bw_tbl := bw_tg (bw_t1 (List.mem_of_getElem? (i := 96) (by decide +kernel))) rfl
set_option maxRecDepth 20000 in
theorem mw_99 : Cond.classLink "BlowerBreath" 43 "BlowerBreath$Deeds" ∈ bw_tbl := bw_tg (bw_t1 (List.mem_of_getElem? (i := 99) (by decide +kernel))) rfl
set_option maxRecDepth 20000 in
theorem mw_100 : Cond.instantiable "BlowerBreath$Deeds" 3 ∈ bw_tbl := bw_tg (bw_t1 (List.mem_of_getElem? (i := 100) (by decide +kernel))) rfl
set_option maxRecDepth 20000 in
theorem mw_101 : Cond.methodLinkNest "BlowerBreath" 45 yX0_init "BlowerBreath" ∈ lw_tbl := bw_t1 (List.mem_of_getElem? (i := 101) (by decide +kernel))
set_option maxRecDepth 20000 in
theorem mw_102 : Cond.instanceMethod yX0_init ∈ bw_tbl := bw_tg (bw_t1 (List.mem_of_getElem? (i := 102) (by decide +kernel))) rfl
set_option maxRecDepth 20000 in
theorem mw_103 : Cond.code yX0_init cX0_init 1 none ∈ bw_tbl := bw_tg (bw_t1 (List.mem_of_getElem? (i := 103) rfl)) rfl
set_option maxRecDepth 20000 in
theorem mw_104 : Cond.methodLink "BlowerBreath$Deeds" 1 objectInit ∈ bw_tbl := bw_tg (bw_t1 (List.mem_of_getElem? (i := 104) (by decide +kernel))) rfl
set_option maxRecDepth 20000 in
theorem mw_105 : Cond.fieldLink "BlowerBreath$Deeds" 9 "BlowerBreath$Deeds" "what" "[I" ∈ bw_tbl := bw_tg (bw_t1 (List.mem_of_getElem? (i := 105) (by decide +kernel))) rfl
set_option maxRecDepth 20000 in
theorem mw_106 : Cond.fieldLink "BlowerBreath$Town" 62 "BlowerBreath$Deeds" "what" "[I" ∈ bw_tbl := bw_tg (bw_t1 (List.mem_of_getElem? (i := 106) (by decide +kernel))) rfl
set_option maxRecDepth 20000 in
theorem mw_107 : Cond.fieldLink "BlowerBreath$Deeds" 13 "BlowerBreath$Deeds" "by" "[I" ∈ bw_tbl := bw_tg (bw_t1 (List.mem_of_getElem? (i := 107) (by decide +kernel))) rfl
set_option maxRecDepth 20000 in
theorem mw_108 : Cond.fieldLink "BlowerBreath$Town" 65 "BlowerBreath$Deeds" "by" "[I" ∈ bw_tbl := bw_tg (bw_t1 (List.mem_of_getElem? (i := 108) (by decide +kernel))) rfl
set_option maxRecDepth 20000 in
theorem mw_109 : Cond.fieldLink "BlowerBreath$Deeds" 16 "BlowerBreath$Deeds" "size" "I" ∈ bw_tbl := bw_tg (bw_t1 (List.mem_of_getElem? (i := 109) (by decide +kernel))) rfl
set_option maxRecDepth 20000 in
theorem mw_110 : Cond.fieldLink "BlowerBreath" 86 "BlowerBreath$Deeds" "size" "I" ∈ bw_tbl := bw_tg (bw_t1 (List.mem_of_getElem? (i := 110) (by decide +kernel))) rfl
set_option maxRecDepth 20000 in
theorem mw_111 : Cond.fieldLink "BlowerBreath$Town" 57 "BlowerBreath$Deeds" "size" "I" ∈ bw_tbl := bw_tg (bw_t1 (List.mem_of_getElem? (i := 111) (by decide +kernel))) rfl
set_option maxRecDepth 20000 in
theorem mw_112 : Cond.laysFinal "BlowerBreath$Deeds" "BlowerBreath$Deeds" "what" "[I" ∈ bw_tbl := bw_tg (bw_t1 (List.mem_of_getElem? (i := 112) (by decide +kernel))) rfl
set_option maxRecDepth 20000 in
theorem mw_114 : Cond.laysFinal "BlowerBreath$Deeds" "BlowerBreath$Deeds" "by" "[I" ∈ bw_tbl := bw_tg (bw_t1 (List.mem_of_getElem? (i := 114) (by decide +kernel))) rfl
set_option maxRecDepth 20000 in
theorem mw_116 : Cond.lays "BlowerBreath$Deeds" "BlowerBreath$Deeds" "size" "I" ∈ bw_tbl := bw_tg (bw_t1 (List.mem_of_getElem? (i := 116) (by decide +kernel))) rfl
set_option maxRecDepth 20000 in
theorem mw_119 : Cond.arrayOver (FieldType.object "BlowerBreath$Deeds") ∈ lw_tbl := bw_t1 (List.mem_of_getElem? (i := 119) (by decide +kernel))
set_option maxRecDepth 20000 in
theorem mw_120 : Cond.methodLink "BlowerBreath" 80 yJ7_fill_53178 ∈ bw_tbl := bw_tg (bw_t1 (List.mem_of_getElem? (i := 120) (by decide +kernel))) rfl
set_option maxRecDepth 20000 in
theorem mw_121 : Cond.static yJ7_fill_53178 ∈ bw_tbl := bw_tg (bw_t1 (List.mem_of_getElem? (i := 121) (by decide +kernel))) rfl
set_option maxRecDepth 20000 in
theorem mw_122 : Cond.code yJ7_fill_53178 cJ7_fill_53178 4 none ∈ bw_tbl := bw_tg (bw_t1 (List.mem_of_getElem? (i := 122) rfl)) rfl
set_option maxRecDepth 20000 in
theorem mw_123 : Cond.fieldLink "BlowerBreath" 11 "BlowerBreath" "rows" "[[I" ∈ bw_tbl := bw_tg (bw_t1 (List.mem_of_getElem? (i := 123) (by decide +kernel))) rfl
set_option maxRecDepth 20000 in
theorem mw_124 : Cond.fieldLink "BlowerBreath" 14 "BlowerBreath" "rowSizes" "[I" ∈ bw_tbl := bw_tg (bw_t1 (List.mem_of_getElem? (i := 124) (by decide +kernel))) rfl
set_option maxRecDepth 20000 in
theorem mw_125 : Cond.fieldLink "BlowerBreath" 20 "BlowerBreath" "texts" "[[B" ∈ bw_tbl := bw_tg (bw_t1 (List.mem_of_getElem? (i := 125) (by decide +kernel))) rfl
set_option maxRecDepth 20000 in
theorem mw_126 : Cond.fieldLink "BlowerBreath" 23 "BlowerBreath" "textSizes" "[I" ∈ bw_tbl := bw_tg (bw_t1 (List.mem_of_getElem? (i := 126) (by decide +kernel))) rfl
set_option maxRecDepth 20000 in
theorem mw_127 : Cond.fieldLink "BlowerBreath" 29 "BlowerBreath" "reader" "LBlowerBreath$Reader;" ∈ bw_tbl := bw_tg (bw_t1 (List.mem_of_getElem? (i := 127) (by decide +kernel))) rfl
set_option maxRecDepth 20000 in
theorem mw_128 : Cond.fieldLink "BlowerBreath" 36 "BlowerBreath" "town" "LBlowerBreath$Town;" ∈ bw_tbl := bw_tg (bw_t1 (List.mem_of_getElem? (i := 128) (by decide +kernel))) rfl
set_option maxRecDepth 20000 in
theorem mw_129 : Cond.fieldLink "BlowerBreath" 40 "BlowerBreath" "trial" "LBlowerBreath$Town;" ∈ bw_tbl := bw_tg (bw_t1 (List.mem_of_getElem? (i := 129) (by decide +kernel))) rfl
set_option maxRecDepth 20000 in
theorem mw_130 : Cond.fieldLink "BlowerBreath" 46 "BlowerBreath" "deeds" "LBlowerBreath$Deeds;" ∈ bw_tbl := bw_tg (bw_t1 (List.mem_of_getElem? (i := 130) (by decide +kernel))) rfl
set_option maxRecDepth 20000 in
theorem mw_131 : Cond.fieldLink "BlowerBreath" 50 "BlowerBreath" "kept" "[LBlowerBreath$Deeds;" ∈ bw_tbl := bw_tg (bw_t1 (List.mem_of_getElem? (i := 131) (by decide +kernel))) rfl
set_option maxRecDepth 20000 in
theorem mw_132 : Cond.fieldLink "BlowerBreath" 54 "BlowerBreath" "tally" "[I" ∈ bw_tbl := bw_tg (bw_t1 (List.mem_of_getElem? (i := 132) (by decide +kernel))) rfl
set_option maxRecDepth 20000 in
theorem mw_133 : Cond.fieldLink "BlowerBreath" 57 "BlowerBreath" "gains" "[I" ∈ bw_tbl := bw_tg (bw_t1 (List.mem_of_getElem? (i := 133) (by decide +kernel))) rfl
set_option maxRecDepth 20000 in
theorem mw_134 : Cond.fieldLink "BlowerBreath" 60 "BlowerBreath" "nextGains" "[I" ∈ bw_tbl := bw_tg (bw_t1 (List.mem_of_getElem? (i := 134) (by decide +kernel))) rfl
set_option maxRecDepth 20000 in
theorem mw_135 : Cond.fieldLink "BlowerBreath" 63 "BlowerBreath" "findingTimes" "[I" ∈ bw_tbl := bw_tg (bw_t1 (List.mem_of_getElem? (i := 135) (by decide +kernel))) rfl
set_option maxRecDepth 20000 in
theorem mw_136 : Cond.fieldLink "BlowerBreath" 66 "BlowerBreath" "latestFinding" "I" ∈ bw_tbl := bw_tg (bw_t1 (List.mem_of_getElem? (i := 136) (by decide +kernel))) rfl
set_option maxRecDepth 20000 in
theorem mw_137 : Cond.fieldLink "BlowerBreath" 70 "BlowerBreath" "latestAsked" "I" ∈ bw_tbl := bw_tg (bw_t1 (List.mem_of_getElem? (i := 137) (by decide +kernel))) rfl
set_option maxRecDepth 20000 in
theorem mw_138 : Cond.fieldLink "BlowerBreath" 73 "BlowerBreath" "latestUpper" "J" ∈ bw_tbl := bw_tg (bw_t1 (List.mem_of_getElem? (i := 138) (by decide +kernel))) rfl
set_option maxRecDepth 20000 in
theorem mw_139 : Cond.fieldLink "BlowerBreath" 77 "BlowerBreath" "latestLower" "J" ∈ bw_tbl := bw_tg (bw_t1 (List.mem_of_getElem? (i := 139) (by decide +kernel))) rfl
set_option maxRecDepth 20000 in
theorem mw_140 : Cond.laysFinal "BlowerBreath" "BlowerBreath" "rows" "[[I" ∈ bw_tbl := bw_tg (bw_t1 (List.mem_of_getElem? (i := 140) (by decide +kernel))) rfl
set_option maxRecDepth 20000 in
theorem mw_142 : Cond.laysFinal "BlowerBreath" "BlowerBreath" "rowSizes" "[I" ∈ bw_tbl := bw_tg (bw_t1 (List.mem_of_getElem? (i := 142) (by decide +kernel))) rfl
set_option maxRecDepth 20000 in
theorem mw_144 : Cond.laysFinal "BlowerBreath" "BlowerBreath" "texts" "[[B" ∈ bw_tbl := bw_tg (bw_t1 (List.mem_of_getElem? (i := 144) (by decide +kernel))) rfl
set_option maxRecDepth 20000 in
theorem mw_146 : Cond.laysFinal "BlowerBreath" "BlowerBreath" "textSizes" "[I" ∈ bw_tbl := bw_tg (bw_t1 (List.mem_of_getElem? (i := 146) (by decide +kernel))) rfl
set_option maxRecDepth 20000 in
theorem mw_148 : Cond.laysFinal "BlowerBreath" "BlowerBreath" "reader" "LBlowerBreath$Reader;" ∈ bw_tbl := bw_tg (bw_t1 (List.mem_of_getElem? (i := 148) (by decide +kernel))) rfl
set_option maxRecDepth 20000 in
theorem mw_150 : Cond.laysFinal "BlowerBreath" "BlowerBreath" "town" "LBlowerBreath$Town;" ∈ bw_tbl := bw_tg (bw_t1 (List.mem_of_getElem? (i := 150) (by decide +kernel))) rfl
set_option maxRecDepth 20000 in
theorem mw_152 : Cond.laysFinal "BlowerBreath" "BlowerBreath" "trial" "LBlowerBreath$Town;" ∈ bw_tbl := bw_tg (bw_t1 (List.mem_of_getElem? (i := 152) (by decide +kernel))) rfl
set_option maxRecDepth 20000 in
theorem mw_154 : Cond.laysFinal "BlowerBreath" "BlowerBreath" "deeds" "LBlowerBreath$Deeds;" ∈ bw_tbl := bw_tg (bw_t1 (List.mem_of_getElem? (i := 154) (by decide +kernel))) rfl
set_option maxRecDepth 20000 in
theorem mw_156 : Cond.laysFinal "BlowerBreath" "BlowerBreath" "kept" "[LBlowerBreath$Deeds;" ∈ bw_tbl := bw_tg (bw_t1 (List.mem_of_getElem? (i := 156) (by decide +kernel))) rfl
set_option maxRecDepth 20000 in
theorem mw_158 : Cond.laysFinal "BlowerBreath" "BlowerBreath" "tally" "[I" ∈ bw_tbl := bw_tg (bw_t1 (List.mem_of_getElem? (i := 158) (by decide +kernel))) rfl
set_option maxRecDepth 20000 in
theorem mw_160 : Cond.laysFinal "BlowerBreath" "BlowerBreath" "gains" "[I" ∈ bw_tbl := bw_tg (bw_t1 (List.mem_of_getElem? (i := 160) (by decide +kernel))) rfl
set_option maxRecDepth 20000 in
theorem mw_162 : Cond.laysFinal "BlowerBreath" "BlowerBreath" "nextGains" "[I" ∈ bw_tbl := bw_tg (bw_t1 (List.mem_of_getElem? (i := 162) (by decide +kernel))) rfl
set_option maxRecDepth 20000 in
theorem mw_164 : Cond.laysFinal "BlowerBreath" "BlowerBreath" "findingTimes" "[I" ∈ bw_tbl := bw_tg (bw_t1 (List.mem_of_getElem? (i := 164) (by decide +kernel))) rfl
set_option maxRecDepth 20000 in
theorem mw_166 : Cond.lays "BlowerBreath" "BlowerBreath" "latestFinding" "I" ∈ bw_tbl := bw_tg (bw_t1 (List.mem_of_getElem? (i := 166) (by decide +kernel))) rfl
set_option maxRecDepth 20000 in
theorem mw_168 : Cond.lays "BlowerBreath" "BlowerBreath" "latestAsked" "I" ∈ bw_tbl := bw_tg (bw_t1 (List.mem_of_getElem? (i := 168) (by decide +kernel))) rfl
set_option maxRecDepth 20000 in
theorem mw_170 : Cond.lays "BlowerBreath" "BlowerBreath" "latestUpper" "J" ∈ bw_tbl := bw_tg (bw_t1 (List.mem_of_getElem? (i := 170) (by decide +kernel))) rfl
set_option maxRecDepth 20000 in
theorem mw_172 : Cond.lays "BlowerBreath" "BlowerBreath" "latestLower" "J" ∈ bw_tbl := bw_tg (bw_t1 (List.mem_of_getElem? (i := 172) (by decide +kernel))) rfl
set_option maxRecDepth 20000 in
theorem mw_175 : Cond.methodLink "BlowerBreathLaw" 13 yX4_row ∈ bw_tbl := bw_tg (bw_t1 (List.mem_of_getElem? (i := 175) (by decide +kernel))) rfl
set_option maxRecDepth 20000 in
theorem mw_176 : Cond.instanceMethod yX4_row ∈ bw_tbl := bw_tg (bw_t1 (List.mem_of_getElem? (i := 176) (by decide +kernel))) rfl
set_option maxRecDepth 20000 in
theorem mw_177 : Cond.selects "BlowerBreath" yX4_row yX4_row ∈ bw_tbl := bw_tg (bw_t1 (List.mem_of_getElem? (i := 177) (by decide +kernel))) rfl
set_option maxRecDepth 20000 in
theorem mw_178 : Cond.code yX4_row cX4_row 3 (some FieldType.int) ∈ bw_tbl := bw_tg (bw_t1 (List.mem_of_getElem? (i := 178) rfl)) rfl
set_option maxRecDepth 20000 in
theorem mw_179 : Cond.methodLink "BlowerBreath" 89 yX4_isRow ∈ bw_tbl := bw_tg (bw_t1 (List.mem_of_getElem? (i := 179) (by decide +kernel))) rfl
set_option maxRecDepth 20000 in
theorem mw_180 : Cond.static yX4_isRow ∈ bw_tbl := bw_tg (bw_t1 (List.mem_of_getElem? (i := 180) (by decide +kernel))) rfl
set_option maxRecDepth 20000 in
theorem mw_181 : Cond.code yX4_isRow cX4_isRow 1 (some FieldType.boolean) ∈ bw_tbl := bw_tg (bw_t1 (List.mem_of_getElem? (i := 181) rfl)) rfl
set_option maxRecDepth 20000 in
theorem mw_182 : Cond.methodLink "BlowerBreath" 93 yX4_found ∈ bw_tbl := bw_tg (bw_t1 (List.mem_of_getElem? (i := 182) (by decide +kernel))) rfl
set_option maxRecDepth 20000 in
theorem mw_184 : Cond.instanceMethod yX4_found ∈ bw_tbl := bw_tg (bw_t1 (List.mem_of_getElem? (i := 184) (by decide +kernel))) rfl
set_option maxRecDepth 20000 in
theorem mw_185 : Cond.code yX4_found cX4_found 2 (some FieldType.int) ∈ bw_tbl := bw_tg (bw_t1 (List.mem_of_getElem? (i := 185) rfl)) rfl
set_option maxRecDepth 20000 in
theorem mw_186 : Cond.methodLink "BlowerBreathLaw" 18 yX4_lay ∈ bw_tbl := bw_tg (bw_t1 (List.mem_of_getElem? (i := 186) (by decide +kernel))) rfl
set_option maxRecDepth 20000 in
theorem mw_187 : Cond.instanceMethod yX4_lay ∈ bw_tbl := bw_tg (bw_t1 (List.mem_of_getElem? (i := 187) (by decide +kernel))) rfl
set_option maxRecDepth 20000 in
theorem mw_188 : Cond.selects "BlowerBreath" yX4_lay yX4_lay ∈ bw_tbl := bw_tg (bw_t1 (List.mem_of_getElem? (i := 188) (by decide +kernel))) rfl
set_option maxRecDepth 20000 in
theorem mw_189 : Cond.code yX4_lay cX4_lay 6 (some FieldType.int) ∈ bw_tbl := bw_tg (bw_t1 (List.mem_of_getElem? (i := 189) rfl)) rfl
set_option maxRecDepth 20000 in
theorem mw_190 : Cond.methodLink "BlowerBreath" 97 yX4_refusedPlace ∈ bw_tbl := bw_tg (bw_t1 (List.mem_of_getElem? (i := 190) (by decide +kernel))) rfl
set_option maxRecDepth 20000 in
theorem mw_192 : Cond.instanceMethod yX4_refusedPlace ∈ bw_tbl := bw_tg (bw_t1 (List.mem_of_getElem? (i := 192) (by decide +kernel))) rfl
set_option maxRecDepth 20000 in
theorem mw_193 : Cond.code yX4_refusedPlace cX4_refusedPlace 3 (some FieldType.int) ∈ bw_tbl := bw_tg (bw_t1 (List.mem_of_getElem? (i := 193) rfl)) rfl
set_option maxRecDepth 20000 in
theorem mw_194 : Cond.methodLink "BlowerBreath" 104 yX4_hasPlaces ∈ bw_tbl := bw_tg (bw_t1 (List.mem_of_getElem? (i := 194) (by decide +kernel))) rfl
set_option maxRecDepth 20000 in
theorem mw_195 : Cond.static yX4_hasPlaces ∈ bw_tbl := bw_tg (bw_t1 (List.mem_of_getElem? (i := 195) (by decide +kernel))) rfl
set_option maxRecDepth 20000 in
theorem mw_196 : Cond.code yX4_hasPlaces cX4_hasPlaces 3 (some FieldType.boolean) ∈ bw_tbl := bw_tg (bw_t1 (List.mem_of_getElem? (i := 196) rfl)) rfl
set_option maxRecDepth 20000 in
theorem mw_197 : Cond.methodLink "BlowerBreath" 101 yX4_tell ∈ bw_tbl := bw_tg (bw_t1 (List.mem_of_getElem? (i := 197) (by decide +kernel))) rfl
set_option maxRecDepth 20000 in
theorem mw_199 : Cond.instanceMethod yX4_tell ∈ bw_tbl := bw_tg (bw_t1 (List.mem_of_getElem? (i := 199) (by decide +kernel))) rfl
set_option maxRecDepth 20000 in
theorem mw_200 : Cond.code yX4_tell cX4_tell 2 (some FieldType.int) ∈ bw_tbl := bw_tg (bw_t1 (List.mem_of_getElem? (i := 200) rfl)) rfl
set_option maxRecDepth 20000 in
theorem mw_201 : Cond.methodLink "BlowerBreathLaw" 23 yX4_at ∈ bw_tbl := bw_tg (bw_t1 (List.mem_of_getElem? (i := 201) (by decide +kernel))) rfl
set_option maxRecDepth 20000 in
theorem mw_202 : Cond.instanceMethod yX4_at ∈ bw_tbl := bw_tg (bw_t1 (List.mem_of_getElem? (i := 202) (by decide +kernel))) rfl
set_option maxRecDepth 20000 in
theorem mw_203 : Cond.selects "BlowerBreath" yX4_at yX4_at ∈ bw_tbl := bw_tg (bw_t1 (List.mem_of_getElem? (i := 203) (by decide +kernel))) rfl
set_option maxRecDepth 20000 in
theorem mw_204 : Cond.code yX4_at cX4_at 4 (some FieldType.int) ∈ bw_tbl := bw_tg (bw_t1 (List.mem_of_getElem? (i := 204) rfl)) rfl
set_option maxRecDepth 20000 in
theorem mw_205 : Cond.methodLink "BlowerBreathLaw" 27 yX4_tear ∈ bw_tbl := bw_tg (bw_t1 (List.mem_of_getElem? (i := 205) (by decide +kernel))) rfl
set_option maxRecDepth 20000 in
theorem mw_206 : Cond.instanceMethod yX4_tear ∈ bw_tbl := bw_tg (bw_t1 (List.mem_of_getElem? (i := 206) (by decide +kernel))) rfl
set_option maxRecDepth 20000 in
theorem mw_207 : Cond.selects "BlowerBreath" yX4_tear yX4_tear ∈ bw_tbl := bw_tg (bw_t1 (List.mem_of_getElem? (i := 207) (by decide +kernel))) rfl
set_option maxRecDepth 20000 in
theorem mw_208 : Cond.code yX4_tear cX4_tear 2 (some FieldType.int) ∈ bw_tbl := bw_tg (bw_t1 (List.mem_of_getElem? (i := 208) rfl)) rfl
set_option maxRecDepth 20000 in
theorem mw_209 : Cond.methodLink "BlowerBreathLaw" 32 yX4_copy ∈ bw_tbl := bw_tg (bw_t1 (List.mem_of_getElem? (i := 209) (by decide +kernel))) rfl
set_option maxRecDepth 20000 in
theorem mw_210 : Cond.instanceMethod yX4_copy ∈ bw_tbl := bw_tg (bw_t1 (List.mem_of_getElem? (i := 210) (by decide +kernel))) rfl
set_option maxRecDepth 20000 in
theorem mw_211 : Cond.selects "BlowerBreath" yX4_copy yX4_copy ∈ bw_tbl := bw_tg (bw_t1 (List.mem_of_getElem? (i := 211) (by decide +kernel))) rfl
set_option maxRecDepth 20000 in
theorem mw_212 : Cond.code yX4_copy cX4_copy 6 (some FieldType.int) ∈ bw_tbl := bw_tg (bw_t1 (List.mem_of_getElem? (i := 212) rfl)) rfl
set_option maxRecDepth 20000 in
theorem mw_213 : Cond.methodLink "BlowerBreath" 108 arraycopyName ∈ bw_tbl := bw_tg (bw_t1 (List.mem_of_getElem? (i := 213) (by decide +kernel))) rfl
set_option maxRecDepth 20000 in
theorem mw_214 : Cond.static arraycopyName ∈ bw_tbl := bw_tg (bw_t1 (List.mem_of_getElem? (i := 214) (by decide +kernel))) rfl
set_option maxRecDepth 20000 in
theorem mw_215 : Cond.native arraycopyName ∈ bw_tbl := bw_tg (bw_t1 (List.mem_of_getElem? (i := 215) (by decide +kernel))) rfl
set_option maxRecDepth 20000 in
theorem mw_216 : Cond.methodLink "BlowerBreathLaw" 37 yX4_mean ∈ bw_tbl := bw_tg (bw_t1 (List.mem_of_getElem? (i := 216) (by decide +kernel))) rfl
set_option maxRecDepth 20000 in
theorem mw_217 : Cond.instanceMethod yX4_mean ∈ bw_tbl := bw_tg (bw_t1 (List.mem_of_getElem? (i := 217) (by decide +kernel))) rfl
set_option maxRecDepth 20000 in
theorem mw_218 : Cond.selects "BlowerBreath" yX4_mean yX4_mean ∈ bw_tbl := bw_tg (bw_t1 (List.mem_of_getElem? (i := 218) (by decide +kernel))) rfl
set_option maxRecDepth 20000 in
theorem mw_219 : Cond.code yX4_mean cX4_mean 6 (some FieldType.int) ∈ bw_tbl := bw_tg (bw_t1 (List.mem_of_getElem? (i := 219) rfl)) rfl
set_option maxRecDepth 20000 in
theorem mw_220 : Cond.methodLink "BlowerBreathLaw" 41 yX4_text ∈ bw_tbl := bw_tg (bw_t1 (List.mem_of_getElem? (i := 220) (by decide +kernel))) rfl
set_option maxRecDepth 20000 in
theorem mw_221 : Cond.instanceMethod yX4_text ∈ bw_tbl := bw_tg (bw_t1 (List.mem_of_getElem? (i := 221) (by decide +kernel))) rfl
set_option maxRecDepth 20000 in
theorem mw_222 : Cond.selects "BlowerBreath" yX4_text yX4_text ∈ bw_tbl := bw_tg (bw_t1 (List.mem_of_getElem? (i := 222) (by decide +kernel))) rfl
set_option maxRecDepth 20000 in
theorem mw_223 : Cond.code yX4_text cX4_text 3 (some FieldType.int) ∈ bw_tbl := bw_tg (bw_t1 (List.mem_of_getElem? (i := 223) rfl)) rfl
set_option maxRecDepth 20000 in
theorem mw_224 : Cond.methodLink "BlowerBreath" 114 yX4_isText ∈ bw_tbl := bw_tg (bw_t1 (List.mem_of_getElem? (i := 224) (by decide +kernel))) rfl
set_option maxRecDepth 20000 in
theorem mw_225 : Cond.static yX4_isText ∈ bw_tbl := bw_tg (bw_t1 (List.mem_of_getElem? (i := 225) (by decide +kernel))) rfl
set_option maxRecDepth 20000 in
theorem mw_226 : Cond.code yX4_isText cX4_isText 1 (some FieldType.boolean) ∈ bw_tbl := bw_tg (bw_t1 (List.mem_of_getElem? (i := 226) rfl)) rfl
set_option maxRecDepth 20000 in
theorem mw_227 : Cond.methodLink "BlowerBreath" 117 yJ7_fill_031fb ∈ bw_tbl := bw_tg (bw_t1 (List.mem_of_getElem? (i := 227) (by decide +kernel))) rfl
set_option maxRecDepth 20000 in
theorem mw_228 : Cond.static yJ7_fill_031fb ∈ bw_tbl := bw_tg (bw_t1 (List.mem_of_getElem? (i := 228) (by decide +kernel))) rfl
set_option maxRecDepth 20000 in
theorem mw_229 : Cond.code yJ7_fill_031fb cJ7_fill_031fb 4 none ∈ bw_tbl := bw_tg (bw_t1 (List.mem_of_getElem? (i := 229) rfl)) rfl
set_option maxRecDepth 20000 in
theorem mw_230 : Cond.methodLink "BlowerBreathLaw" 45 yX4_put ∈ bw_tbl := bw_tg (bw_t1 (List.mem_of_getElem? (i := 230) (by decide +kernel))) rfl
set_option maxRecDepth 20000 in
theorem mw_231 : Cond.instanceMethod yX4_put ∈ bw_tbl := bw_tg (bw_t1 (List.mem_of_getElem? (i := 231) (by decide +kernel))) rfl
set_option maxRecDepth 20000 in
theorem mw_232 : Cond.selects "BlowerBreath" yX4_put yX4_put ∈ bw_tbl := bw_tg (bw_t1 (List.mem_of_getElem? (i := 232) (by decide +kernel))) rfl
set_option maxRecDepth 20000 in
theorem mw_233 : Cond.code yX4_put cX4_put 5 (some FieldType.int) ∈ bw_tbl := bw_tg (bw_t1 (List.mem_of_getElem? (i := 233) rfl)) rfl
set_option maxRecDepth 20000 in
theorem mw_234 : Cond.methodLink "BlowerBreathLaw" 49 yX4_fault ∈ bw_tbl := bw_tg (bw_t1 (List.mem_of_getElem? (i := 234) (by decide +kernel))) rfl
set_option maxRecDepth 20000 in
theorem mw_235 : Cond.instanceMethod yX4_fault ∈ bw_tbl := bw_tg (bw_t1 (List.mem_of_getElem? (i := 235) (by decide +kernel))) rfl
set_option maxRecDepth 20000 in
theorem mw_236 : Cond.selects "BlowerBreath" yX4_fault yX4_fault ∈ bw_tbl := bw_tg (bw_t1 (List.mem_of_getElem? (i := 236) (by decide +kernel))) rfl
set_option maxRecDepth 20000 in
theorem mw_237 : Cond.code yX4_fault cX4_fault 2 (some FieldType.int) ∈ bw_tbl := bw_tg (bw_t1 (List.mem_of_getElem? (i := 237) rfl)) rfl
set_option maxRecDepth 20000 in
theorem mw_238 : Cond.methodLink "BlowerBreath" 120 yX2_readTown ∈ bw_tbl := bw_tg (bw_t1 (List.mem_of_getElem? (i := 238) (by decide +kernel))) rfl
set_option maxRecDepth 20000 in
theorem mw_239 : Cond.instanceMethod yX2_readTown ∈ bw_tbl := bw_tg (bw_t1 (List.mem_of_getElem? (i := 239) (by decide +kernel))) rfl
set_option maxRecDepth 20000 in
theorem mw_240 : Cond.selects "BlowerBreath$Reader" yX2_readTown yX2_readTown ∈ bw_tbl := bw_tg (bw_t2 (List.mem_of_getElem? (i := 0) (by decide +kernel))) rfl
set_option maxRecDepth 20000 in
theorem mw_241 : Cond.code yX2_readTown cX2_readTown 6 (some FieldType.int) ∈ bw_tbl := bw_tg (bw_t2 (List.mem_of_getElem? (i := 1) rfl)) rfl
set_option maxRecDepth 20000 in
theorem mw_242 : Cond.methodLink "BlowerBreath$Reader" 22 yX2_passBlanks ∈ bw_tbl := bw_tg (bw_t2 (List.mem_of_getElem? (i := 2) (by decide +kernel))) rfl
set_option maxRecDepth 20000 in
theorem mw_244 : Cond.instanceMethod yX2_passBlanks ∈ bw_tbl := bw_tg (bw_t2 (List.mem_of_getElem? (i := 4) (by decide +kernel))) rfl
set_option maxRecDepth 20000 in
theorem mw_245 : Cond.code yX2_passBlanks cX2_passBlanks 2 none ∈ bw_tbl := bw_tg (bw_t2 (List.mem_of_getElem? (i := 5) rfl)) rfl
set_option maxRecDepth 20000 in
theorem mw_246 : Cond.methodLink "BlowerBreath$Reader" 38 yX2_signAt ∈ bw_tbl := bw_tg (bw_t2 (List.mem_of_getElem? (i := 6) (by decide +kernel))) rfl
set_option maxRecDepth 20000 in
theorem mw_248 : Cond.instanceMethod yX2_signAt ∈ bw_tbl := bw_tg (bw_t2 (List.mem_of_getElem? (i := 8) (by decide +kernel))) rfl
set_option maxRecDepth 20000 in
theorem mw_249 : Cond.code yX2_signAt cX2_signAt 2 (some FieldType.int) ∈ bw_tbl := bw_tg (bw_t2 (List.mem_of_getElem? (i := 9) rfl)) rfl
set_option maxRecDepth 20000 in
theorem mw_250 : Cond.methodLink "BlowerBreath$Reader" 25 yX2_readBellows ∈ bw_tbl := bw_tg (bw_t2 (List.mem_of_getElem? (i := 10) (by decide +kernel))) rfl
set_option maxRecDepth 20000 in
theorem mw_252 : Cond.instanceMethod yX2_readBellows ∈ bw_tbl := bw_tg (bw_t2 (List.mem_of_getElem? (i := 12) (by decide +kernel))) rfl
set_option maxRecDepth 20000 in
theorem mw_253 : Cond.code yX2_readBellows cX2_readBellows 5 (some FieldType.int) ∈ bw_tbl := bw_tg (bw_t2 (List.mem_of_getElem? (i := 13) rfl)) rfl
set_option maxRecDepth 20000 in
theorem mw_254 : Cond.methodLink "BlowerBreath$Reader" 34 yX2_figureAt ∈ bw_tbl := bw_tg (bw_t2 (List.mem_of_getElem? (i := 14) (by decide +kernel))) rfl
set_option maxRecDepth 20000 in
theorem mw_256 : Cond.instanceMethod yX2_figureAt ∈ bw_tbl := bw_tg (bw_t2 (List.mem_of_getElem? (i := 16) (by decide +kernel))) rfl
set_option maxRecDepth 20000 in
theorem mw_257 : Cond.code yX2_figureAt cX2_figureAt 3 (some FieldType.int) ∈ bw_tbl := bw_tg (bw_t2 (List.mem_of_getElem? (i := 17) rfl)) rfl
set_option maxRecDepth 20000 in
theorem mw_258 : Cond.methodLink "BlowerBreath$Reader" 41 yX3_found ∈ bw_tbl := bw_tg (bw_t2 (List.mem_of_getElem? (i := 18) (by decide +kernel))) rfl
set_option maxRecDepth 20000 in
theorem mw_259 : Cond.instanceMethod yX3_found ∈ bw_tbl := bw_tg (bw_t2 (List.mem_of_getElem? (i := 19) (by decide +kernel))) rfl
set_option maxRecDepth 20000 in
theorem mw_260 : Cond.selects "BlowerBreath$Town" yX3_found yX3_found ∈ bw_tbl := bw_tg (bw_t2 (List.mem_of_getElem? (i := 20) (by decide +kernel))) rfl
set_option maxRecDepth 20000 in
theorem mw_261 : Cond.code yX3_found cX3_found 3 none ∈ bw_tbl := bw_tg (bw_t2 (List.mem_of_getElem? (i := 21) rfl)) rfl
set_option maxRecDepth 20000 in
theorem mw_262 : Cond.methodLink "BlowerBreath$Town" 54 yX3_restart ∈ bw_tbl := bw_tg (bw_t2 (List.mem_of_getElem? (i := 22) (by decide +kernel))) rfl
set_option maxRecDepth 20000 in
theorem mw_264 : Cond.instanceMethod yX3_restart ∈ bw_tbl := bw_tg (bw_t2 (List.mem_of_getElem? (i := 24) (by decide +kernel))) rfl
set_option maxRecDepth 20000 in
theorem mw_265 : Cond.code yX3_restart cX3_restart 1 none ∈ bw_tbl := bw_tg (bw_t2 (List.mem_of_getElem? (i := 25) rfl)) rfl
set_option maxRecDepth 20000 in
theorem mw_266 : Cond.methodLink "BlowerBreath$Town" 72 yJ7_fill_53178 ∈ bw_tbl := bw_tg (bw_t2 (List.mem_of_getElem? (i := 26) (by decide +kernel))) rfl
set_option maxRecDepth 20000 in
theorem mw_267 : Cond.methodLink "BlowerBreath$Reader" 31 yX2_readPipe ∈ bw_tbl := bw_tg (bw_t2 (List.mem_of_getElem? (i := 27) (by decide +kernel))) rfl
set_option maxRecDepth 20000 in
theorem mw_269 : Cond.instanceMethod yX2_readPipe ∈ bw_tbl := bw_tg (bw_t2 (List.mem_of_getElem? (i := 29) (by decide +kernel))) rfl
set_option maxRecDepth 20000 in
theorem mw_270 : Cond.code yX2_readPipe cX2_readPipe 5 (some FieldType.int) ∈ bw_tbl := bw_tg (bw_t2 (List.mem_of_getElem? (i := 30) rfl)) rfl
set_option maxRecDepth 20000 in
theorem mw_271 : Cond.methodLink "BlowerBreath$Reader" 45 yX1_ofLetter ∈ bw_tbl := bw_tg (bw_t2 (List.mem_of_getElem? (i := 31) (by decide +kernel))) rfl
set_option maxRecDepth 20000 in
theorem mw_272 : Cond.static yX1_ofLetter ∈ bw_tbl := bw_tg (bw_t2 (List.mem_of_getElem? (i := 32) (by decide +kernel))) rfl
set_option maxRecDepth 20000 in
theorem mw_273 : Cond.code yX1_ofLetter cX1_ofLetter 1 (some FieldType.int) ∈ bw_tbl := bw_tg (bw_t2 (List.mem_of_getElem? (i := 33) rfl)) rfl
set_option maxRecDepth 20000 in
theorem mw_274 : Cond.methodLink "BlowerBreath$Reader" 53 yX3_join ∈ bw_tbl := bw_tg (bw_t2 (List.mem_of_getElem? (i := 34) (by decide +kernel))) rfl
set_option maxRecDepth 20000 in
theorem mw_275 : Cond.instanceMethod yX3_join ∈ bw_tbl := bw_tg (bw_t2 (List.mem_of_getElem? (i := 35) (by decide +kernel))) rfl
set_option maxRecDepth 20000 in
theorem mw_276 : Cond.selects "BlowerBreath$Town" yX3_join yX3_join ∈ bw_tbl := bw_tg (bw_t2 (List.mem_of_getElem? (i := 36) (by decide +kernel))) rfl
set_option maxRecDepth 20000 in
theorem mw_277 : Cond.code yX3_join cX3_join 4 none ∈ bw_tbl := bw_tg (bw_t2 (List.mem_of_getElem? (i := 37) rfl)) rfl
set_option maxRecDepth 20000 in
theorem mw_278 : Cond.methodLink "BlowerBreathLaw" 53 yX4_town ∈ bw_tbl := bw_tg (bw_t2 (List.mem_of_getElem? (i := 38) (by decide +kernel))) rfl
set_option maxRecDepth 20000 in
theorem mw_279 : Cond.instanceMethod yX4_town ∈ bw_tbl := bw_tg (bw_t2 (List.mem_of_getElem? (i := 39) (by decide +kernel))) rfl
set_option maxRecDepth 20000 in
theorem mw_280 : Cond.selects "BlowerBreath" yX4_town yX4_town ∈ bw_tbl := bw_tg (bw_t2 (List.mem_of_getElem? (i := 40) (by decide +kernel))) rfl
set_option maxRecDepth 20000 in
theorem mw_281 : Cond.code yX4_town cX4_town 3 (some FieldType.int) ∈ bw_tbl := bw_tg (bw_t2 (List.mem_of_getElem? (i := 41) rfl)) rfl
set_option maxRecDepth 20000 in
theorem mw_282 : Cond.methodLink "BlowerBreath" 124 yX3_become ∈ bw_tbl := bw_tg (bw_t2 (List.mem_of_getElem? (i := 42) (by decide +kernel))) rfl
set_option maxRecDepth 20000 in
theorem mw_283 : Cond.instanceMethod yX3_become ∈ bw_tbl := bw_tg (bw_t2 (List.mem_of_getElem? (i := 43) (by decide +kernel))) rfl
set_option maxRecDepth 20000 in
theorem mw_284 : Cond.selects "BlowerBreath$Town" yX3_become yX3_become ∈ bw_tbl := bw_tg (bw_t2 (List.mem_of_getElem? (i := 44) (by decide +kernel))) rfl
set_option maxRecDepth 20000 in
theorem mw_285 : Cond.code yX3_become cX3_become 3 none ∈ bw_tbl := bw_tg (bw_t2 (List.mem_of_getElem? (i := 45) rfl)) rfl
set_option maxRecDepth 20000 in
theorem mw_286 : Cond.methodLink "BlowerBreathLaw" 57 yX4_pipe ∈ bw_tbl := bw_tg (bw_t2 (List.mem_of_getElem? (i := 46) (by decide +kernel))) rfl
set_option maxRecDepth 20000 in
theorem mw_287 : Cond.instanceMethod yX4_pipe ∈ bw_tbl := bw_tg (bw_t2 (List.mem_of_getElem? (i := 47) (by decide +kernel))) rfl
set_option maxRecDepth 20000 in
theorem mw_288 : Cond.selects "BlowerBreath" yX4_pipe yX4_pipe ∈ bw_tbl := bw_tg (bw_t2 (List.mem_of_getElem? (i := 48) (by decide +kernel))) rfl
set_option maxRecDepth 20000 in
theorem mw_289 : Cond.code yX4_pipe cX4_pipe 3 (some FieldType.int) ∈ bw_tbl := bw_tg (bw_t2 (List.mem_of_getElem? (i := 49) rfl)) rfl
set_option maxRecDepth 20000 in
theorem mw_290 : Cond.methodLink "BlowerBreath" 131 yX3_hasPipe ∈ bw_tbl := bw_tg (bw_t2 (List.mem_of_getElem? (i := 50) (by decide +kernel))) rfl
set_option maxRecDepth 20000 in
theorem mw_291 : Cond.instanceMethod yX3_hasPipe ∈ bw_tbl := bw_tg (bw_t2 (List.mem_of_getElem? (i := 51) (by decide +kernel))) rfl
set_option maxRecDepth 20000 in
theorem mw_292 : Cond.selects "BlowerBreath$Town" yX3_hasPipe yX3_hasPipe ∈ bw_tbl := bw_tg (bw_t2 (List.mem_of_getElem? (i := 52) (by decide +kernel))) rfl
set_option maxRecDepth 20000 in
theorem mw_293 : Cond.code yX3_hasPipe cX3_hasPipe 2 (some FieldType.boolean) ∈ bw_tbl := bw_tg (bw_t2 (List.mem_of_getElem? (i := 53) rfl)) rfl
set_option maxRecDepth 20000 in
theorem mw_294 : Cond.methodLink "BlowerBreath" 134 yX4_pipeFact ∈ bw_tbl := bw_tg (bw_t2 (List.mem_of_getElem? (i := 54) (by decide +kernel))) rfl
set_option maxRecDepth 20000 in
theorem mw_296 : Cond.instanceMethod yX4_pipeFact ∈ bw_tbl := bw_tg (bw_t2 (List.mem_of_getElem? (i := 56) (by decide +kernel))) rfl
set_option maxRecDepth 20000 in
theorem mw_297 : Cond.code yX4_pipeFact cX4_pipeFact 3 (some FieldType.int) ∈ bw_tbl := bw_tg (bw_t2 (List.mem_of_getElem? (i := 57) rfl)) rfl
set_option maxRecDepth 20000 in
theorem mw_298 : Cond.methodLink "BlowerBreath" 160 yX3_wantNext ∈ bw_tbl := bw_tg (bw_t2 (List.mem_of_getElem? (i := 58) (by decide +kernel))) rfl
set_option maxRecDepth 20000 in
theorem mw_299 : Cond.instanceMethod yX3_wantNext ∈ bw_tbl := bw_tg (bw_t2 (List.mem_of_getElem? (i := 59) (by decide +kernel))) rfl
set_option maxRecDepth 20000 in
theorem mw_300 : Cond.selects "BlowerBreath$Town" yX3_wantNext yX3_wantNext ∈ bw_tbl := bw_tg (bw_t2 (List.mem_of_getElem? (i := 60) (by decide +kernel))) rfl
set_option maxRecDepth 20000 in
theorem mw_301 : Cond.code yX3_wantNext cX3_wantNext 2 (some FieldType.int) ∈ bw_tbl := bw_tg (bw_t2 (List.mem_of_getElem? (i := 61) rfl)) rfl
set_option maxRecDepth 20000 in
theorem mw_302 : Cond.methodLink "BlowerBreath$Town" 100 yX1_want ∈ bw_tbl := bw_tg (bw_t2 (List.mem_of_getElem? (i := 62) (by decide +kernel))) rfl
set_option maxRecDepth 20000 in
theorem mw_303 : Cond.static yX1_want ∈ bw_tbl := bw_tg (bw_t2 (List.mem_of_getElem? (i := 63) (by decide +kernel))) rfl
set_option maxRecDepth 20000 in
theorem mw_304 : Cond.code yX1_want cX1_want 3 (some FieldType.int) ∈ bw_tbl := bw_tg (bw_t2 (List.mem_of_getElem? (i := 64) rfl)) rfl
set_option maxRecDepth 20000 in
theorem mw_305 : Cond.methodLink "BlowerBreath" 295 yX3_cutOffSet ∈ bw_tbl := bw_tg (bw_t2 (List.mem_of_getElem? (i := 65) (by decide +kernel))) rfl
set_option maxRecDepth 20000 in
theorem mw_306 : Cond.instanceMethod yX3_cutOffSet ∈ bw_tbl := bw_tg (bw_t2 (List.mem_of_getElem? (i := 66) (by decide +kernel))) rfl
set_option maxRecDepth 20000 in
theorem mw_307 : Cond.selects "BlowerBreath$Town" yX3_cutOffSet yX3_cutOffSet ∈ bw_tbl := bw_tg (bw_t2 (List.mem_of_getElem? (i := 67) (by decide +kernel))) rfl
set_option maxRecDepth 20000 in
theorem mw_308 : Cond.code yX3_cutOffSet cX3_cutOffSet 3 (some FieldType.int) ∈ bw_tbl := bw_tg (bw_t2 (List.mem_of_getElem? (i := 68) rfl)) rfl
set_option maxRecDepth 20000 in
theorem mw_309 : Cond.methodLink "BlowerBreath$Town" 92 yX3_isIn ∈ bw_tbl := bw_tg (bw_t2 (List.mem_of_getElem? (i := 69) (by decide +kernel))) rfl
set_option maxRecDepth 20000 in
theorem mw_310 : Cond.static yX3_isIn ∈ bw_tbl := bw_tg (bw_t2 (List.mem_of_getElem? (i := 70) (by decide +kernel))) rfl
set_option maxRecDepth 20000 in
theorem mw_311 : Cond.code yX3_isIn cX3_isIn 2 (some FieldType.boolean) ∈ bw_tbl := bw_tg (bw_t2 (List.mem_of_getElem? (i := 71) rfl)) rfl
set_option maxRecDepth 20000 in
theorem mw_312 : Cond.methodLink "BlowerBreath" 198 yX3_isIn ∈ bw_tbl := bw_tg (bw_t2 (List.mem_of_getElem? (i := 72) (by decide +kernel))) rfl
set_option maxRecDepth 20000 in
theorem mw_313 : Cond.methodLink "BlowerBreathLaw" 61 yX4_mark ∈ bw_tbl := bw_tg (bw_t2 (List.mem_of_getElem? (i := 73) (by decide +kernel))) rfl
set_option maxRecDepth 20000 in
theorem mw_314 : Cond.instanceMethod yX4_mark ∈ bw_tbl := bw_tg (bw_t2 (List.mem_of_getElem? (i := 74) (by decide +kernel))) rfl
set_option maxRecDepth 20000 in
theorem mw_315 : Cond.selects "BlowerBreath" yX4_mark yX4_mark ∈ bw_tbl := bw_tg (bw_t2 (List.mem_of_getElem? (i := 75) (by decide +kernel))) rfl
set_option maxRecDepth 20000 in
theorem mw_316 : Cond.code yX4_mark cX4_mark 3 (some FieldType.int) ∈ bw_tbl := bw_tg (bw_t2 (List.mem_of_getElem? (i := 76) rfl)) rfl
set_option maxRecDepth 20000 in
theorem mw_317 : Cond.methodLink "BlowerBreath" 142 yX1_isOf ∈ bw_tbl := bw_tg (bw_t2 (List.mem_of_getElem? (i := 77) (by decide +kernel))) rfl
set_option maxRecDepth 20000 in
theorem mw_318 : Cond.static yX1_isOf ∈ bw_tbl := bw_tg (bw_t2 (List.mem_of_getElem? (i := 78) (by decide +kernel))) rfl
set_option maxRecDepth 20000 in
theorem mw_319 : Cond.code yX1_isOf cX1_isOf 2 (some FieldType.boolean) ∈ bw_tbl := bw_tg (bw_t2 (List.mem_of_getElem? (i := 79) rfl)) rfl
set_option maxRecDepth 20000 in
theorem mw_320 : Cond.methodLink "BlowerBreath" 155 yJ9_max_7cf53 ∈ bw_tbl := bw_tg (bw_t2 (List.mem_of_getElem? (i := 80) (by decide +kernel))) rfl
set_option maxRecDepth 20000 in
theorem mw_321 : Cond.static yJ9_max_7cf53 ∈ bw_tbl := bw_tg (bw_t2 (List.mem_of_getElem? (i := 81) (by decide +kernel))) rfl
set_option maxRecDepth 20000 in
theorem mw_322 : Cond.code yJ9_max_7cf53 cJ9_max_7cf53 2 (some FieldType.int) ∈ bw_tbl := bw_tg (bw_t2 (List.mem_of_getElem? (i := 82) rfl)) rfl
set_option maxRecDepth 20000 in
theorem mw_323 : Cond.methodLink "BlowerBreath" 166 yX1_hoursToRest ∈ bw_tbl := bw_tg (bw_t2 (List.mem_of_getElem? (i := 83) (by decide +kernel))) rfl
set_option maxRecDepth 20000 in
theorem mw_324 : Cond.static yX1_hoursToRest ∈ bw_tbl := bw_tg (bw_t2 (List.mem_of_getElem? (i := 84) (by decide +kernel))) rfl
set_option maxRecDepth 20000 in
theorem mw_325 : Cond.code yX1_hoursToRest cX1_hoursToRest 1 (some FieldType.int) ∈ bw_tbl := bw_tg (bw_t2 (List.mem_of_getElem? (i := 85) rfl)) rfl
set_option maxRecDepth 20000 in
theorem mw_326 : Cond.methodLink "BlowerBreath" 169 yX4_wantingNoMoreThan ∈ bw_tbl := bw_tg (bw_t2 (List.mem_of_getElem? (i := 86) (by decide +kernel))) rfl
set_option maxRecDepth 20000 in
theorem mw_328 : Cond.instanceMethod yX4_wantingNoMoreThan ∈ bw_tbl := bw_tg (bw_t2 (List.mem_of_getElem? (i := 88) (by decide +kernel))) rfl
set_option maxRecDepth 20000 in
theorem mw_329 : Cond.code yX4_wantingNoMoreThan cX4_wantingNoMoreThan 5 (some FieldType.int) ∈ bw_tbl := bw_tg (bw_t2 (List.mem_of_getElem? (i := 89) rfl)) rfl
set_option maxRecDepth 20000 in
theorem mw_330 : Cond.methodLink "BlowerBreathLaw" 65 yX4_hour ∈ bw_tbl := bw_tg (bw_t2 (List.mem_of_getElem? (i := 90) (by decide +kernel))) rfl
set_option maxRecDepth 20000 in
theorem mw_331 : Cond.instanceMethod yX4_hour ∈ bw_tbl := bw_tg (bw_t2 (List.mem_of_getElem? (i := 91) (by decide +kernel))) rfl
set_option maxRecDepth 20000 in
theorem mw_332 : Cond.selects "BlowerBreath" yX4_hour yX4_hour ∈ bw_tbl := bw_tg (bw_t2 (List.mem_of_getElem? (i := 92) (by decide +kernel))) rfl
set_option maxRecDepth 20000 in
theorem mw_333 : Cond.code yX4_hour cX4_hour 1 (some FieldType.int) ∈ bw_tbl := bw_tg (bw_t2 (List.mem_of_getElem? (i := 93) rfl)) rfl
set_option maxRecDepth 20000 in
theorem mw_334 : Cond.methodLink "BlowerBreath" 172 yX4_perform ∈ bw_tbl := bw_tg (bw_t2 (List.mem_of_getElem? (i := 94) (by decide +kernel))) rfl
set_option maxRecDepth 20000 in
theorem mw_336 : Cond.instanceMethod yX4_perform ∈ bw_tbl := bw_tg (bw_t2 (List.mem_of_getElem? (i := 96) (by decide +kernel))) rfl
set_option maxRecDepth 20000 in
theorem mw_337 : Cond.code yX4_perform cX4_perform 3 (some FieldType.int) ∈ bw_tbl := bw_tg (bw_t2 (List.mem_of_getElem? (i := 97) rfl)) rfl
set_option maxRecDepth 20000 in
theorem mw_338 : Cond.methodLink "BlowerBreath" 298 yX0_add ∈ bw_tbl := bw_tg (bw_t2 (List.mem_of_getElem? (i := 98) (by decide +kernel))) rfl
set_option maxRecDepth 20000 in
theorem mw_339 : Cond.instanceMethod yX0_add ∈ bw_tbl := bw_tg (bw_t2 (List.mem_of_getElem? (i := 99) (by decide +kernel))) rfl
set_option maxRecDepth 20000 in
theorem mw_340 : Cond.selects "BlowerBreath$Deeds" yX0_add yX0_add ∈ bw_tbl := bw_tg (bw_t2 (List.mem_of_getElem? (i := 100) (by decide +kernel))) rfl
set_option maxRecDepth 20000 in
theorem mw_341 : Cond.code yX0_add cX0_add 3 (some FieldType.boolean) ∈ bw_tbl := bw_tg (bw_t2 (List.mem_of_getElem? (i := 101) rfl)) rfl
set_option maxRecDepth 20000 in
theorem mw_342 : Cond.methodLink "BlowerBreath" 301 yX3_undergo ∈ bw_tbl := bw_tg (bw_t2 (List.mem_of_getElem? (i := 102) (by decide +kernel))) rfl
set_option maxRecDepth 20000 in
theorem mw_343 : Cond.instanceMethod yX3_undergo ∈ bw_tbl := bw_tg (bw_t2 (List.mem_of_getElem? (i := 103) (by decide +kernel))) rfl
set_option maxRecDepth 20000 in
theorem mw_344 : Cond.selects "BlowerBreath$Town" yX3_undergo yX3_undergo ∈ bw_tbl := bw_tg (bw_t2 (List.mem_of_getElem? (i := 104) (by decide +kernel))) rfl
set_option maxRecDepth 20000 in
theorem mw_345 : Cond.code yX3_undergo cX3_undergo 4 (some FieldType.int) ∈ bw_tbl := bw_tg (bw_t2 (List.mem_of_getElem? (i := 105) rfl)) rfl
set_option maxRecDepth 20000 in
theorem mw_346 : Cond.methodLink "BlowerBreath$Town" 78 yX3_blow ∈ bw_tbl := bw_tg (bw_t2 (List.mem_of_getElem? (i := 106) (by decide +kernel))) rfl
set_option maxRecDepth 20000 in
theorem mw_347 : Cond.instanceMethod yX3_blow ∈ bw_tbl := bw_tg (bw_t2 (List.mem_of_getElem? (i := 107) (by decide +kernel))) rfl
set_option maxRecDepth 20000 in
theorem mw_348 : Cond.selects "BlowerBreath$Town" yX3_blow yX3_blow ∈ bw_tbl := bw_tg (bw_t2 (List.mem_of_getElem? (i := 108) (by decide +kernel))) rfl
set_option maxRecDepth 20000 in
theorem mw_349 : Cond.code yX3_blow cX3_blow 4 (some FieldType.int) ∈ bw_tbl := bw_tg (bw_t2 (List.mem_of_getElem? (i := 109) rfl)) rfl
set_option maxRecDepth 20000 in
theorem mw_350 : Cond.methodLink "BlowerBreath$Town" 81 yJ9_min_7cf53 ∈ bw_tbl := bw_tg (bw_t2 (List.mem_of_getElem? (i := 110) (by decide +kernel))) rfl
set_option maxRecDepth 20000 in
theorem mw_351 : Cond.static yJ9_min_7cf53 ∈ bw_tbl := bw_tg (bw_t2 (List.mem_of_getElem? (i := 111) (by decide +kernel))) rfl
set_option maxRecDepth 20000 in
theorem mw_352 : Cond.code yJ9_min_7cf53 cJ9_min_7cf53 2 (some FieldType.int) ∈ bw_tbl := bw_tg (bw_t2 (List.mem_of_getElem? (i := 112) rfl)) rfl
set_option maxRecDepth 20000 in
theorem mw_353 : Cond.methodLink "BlowerBreath$Town" 89 yX3_cutOffSet ∈ bw_tbl := bw_tg (bw_t2 (List.mem_of_getElem? (i := 113) (by decide +kernel))) rfl
set_option maxRecDepth 20000 in
theorem mw_354 : Cond.methodLink "BlowerBreath$Town" 96 yX3_breathe ∈ bw_tbl := bw_tg (bw_t2 (List.mem_of_getElem? (i := 114) (by decide +kernel))) rfl
set_option maxRecDepth 20000 in
theorem mw_356 : Cond.instanceMethod yX3_breathe ∈ bw_tbl := bw_tg (bw_t2 (List.mem_of_getElem? (i := 116) (by decide +kernel))) rfl
set_option maxRecDepth 20000 in
theorem mw_357 : Cond.code yX3_breathe cX3_breathe 3 (some FieldType.boolean) ∈ bw_tbl := bw_tg (bw_t2 (List.mem_of_getElem? (i := 117) rfl)) rfl
set_option maxRecDepth 20000 in
theorem mw_358 : Cond.methodLink "BlowerBreath$Town" 86 yJ9_max_7cf53 ∈ bw_tbl := bw_tg (bw_t2 (List.mem_of_getElem? (i := 118) (by decide +kernel))) rfl
set_option maxRecDepth 20000 in
theorem mw_359 : Cond.methodLink "BlowerBreath$Town" 106 yX1_keeps ∈ bw_tbl := bw_tg (bw_t2 (List.mem_of_getElem? (i := 119) (by decide +kernel))) rfl
set_option maxRecDepth 20000 in
theorem mw_360 : Cond.static yX1_keeps ∈ bw_tbl := bw_tg (bw_t2 (List.mem_of_getElem? (i := 120) (by decide +kernel))) rfl
set_option maxRecDepth 20000 in
theorem mw_361 : Cond.code yX1_keeps cX1_keeps 1 (some FieldType.int) ∈ bw_tbl := bw_tg (bw_t2 (List.mem_of_getElem? (i := 121) rfl)) rfl
set_option maxRecDepth 20000 in
theorem mw_362 : Cond.methodLink "BlowerBreath$Kind" 11 yX1_isOf ∈ bw_tbl := bw_tg (bw_t2 (List.mem_of_getElem? (i := 122) (by decide +kernel))) rfl
set_option maxRecDepth 20000 in
theorem mw_363 : Cond.methodLink "BlowerBreath$Town" 110 yX3_save ∈ bw_tbl := bw_tg (bw_t2 (List.mem_of_getElem? (i := 123) (by decide +kernel))) rfl
set_option maxRecDepth 20000 in
theorem mw_365 : Cond.instanceMethod yX3_save ∈ bw_tbl := bw_tg (bw_t2 (List.mem_of_getElem? (i := 125) (by decide +kernel))) rfl
set_option maxRecDepth 20000 in
theorem mw_366 : Cond.code yX3_save cX3_save 3 none ∈ bw_tbl := bw_tg (bw_t2 (List.mem_of_getElem? (i := 126) rfl)) rfl
set_option maxRecDepth 20000 in
theorem mw_367 : Cond.methodLink "BlowerBreathLaw" 70 yX4_pump ∈ bw_tbl := bw_tg (bw_t2 (List.mem_of_getElem? (i := 127) (by decide +kernel))) rfl
set_option maxRecDepth 20000 in
theorem mw_368 : Cond.instanceMethod yX4_pump ∈ bw_tbl := bw_tg (bw_t2 (List.mem_of_getElem? (i := 128) (by decide +kernel))) rfl
set_option maxRecDepth 20000 in
theorem mw_369 : Cond.selects "BlowerBreath" yX4_pump yX4_pump ∈ bw_tbl := bw_tg (bw_t2 (List.mem_of_getElem? (i := 129) (by decide +kernel))) rfl
set_option maxRecDepth 20000 in
theorem mw_370 : Cond.code yX4_pump cX4_pump 2 (some FieldType.int) ∈ bw_tbl := bw_tg (bw_t2 (List.mem_of_getElem? (i := 130) rfl)) rfl
set_option maxRecDepth 20000 in
theorem mw_371 : Cond.methodLink "BlowerBreathLaw" 74 yX4_cut ∈ bw_tbl := bw_tg (bw_t2 (List.mem_of_getElem? (i := 131) (by decide +kernel))) rfl
set_option maxRecDepth 20000 in
theorem mw_372 : Cond.instanceMethod yX4_cut ∈ bw_tbl := bw_tg (bw_t2 (List.mem_of_getElem? (i := 132) (by decide +kernel))) rfl
set_option maxRecDepth 20000 in
theorem mw_373 : Cond.selects "BlowerBreath" yX4_cut yX4_cut ∈ bw_tbl := bw_tg (bw_t2 (List.mem_of_getElem? (i := 133) (by decide +kernel))) rfl
set_option maxRecDepth 20000 in
theorem mw_374 : Cond.code yX4_cut cX4_cut 2 (some FieldType.int) ∈ bw_tbl := bw_tg (bw_t2 (List.mem_of_getElem? (i := 134) rfl)) rfl
set_option maxRecDepth 20000 in
theorem mw_375 : Cond.methodLink "BlowerBreathLaw" 78 yX4_leak ∈ bw_tbl := bw_tg (bw_t2 (List.mem_of_getElem? (i := 135) (by decide +kernel))) rfl
set_option maxRecDepth 20000 in
theorem mw_376 : Cond.instanceMethod yX4_leak ∈ bw_tbl := bw_tg (bw_t2 (List.mem_of_getElem? (i := 136) (by decide +kernel))) rfl
set_option maxRecDepth 20000 in
theorem mw_377 : Cond.selects "BlowerBreath" yX4_leak yX4_leak ∈ bw_tbl := bw_tg (bw_t2 (List.mem_of_getElem? (i := 137) (by decide +kernel))) rfl
set_option maxRecDepth 20000 in
theorem mw_378 : Cond.code yX4_leak cX4_leak 2 (some FieldType.int) ∈ bw_tbl := bw_tg (bw_t2 (List.mem_of_getElem? (i := 138) rfl)) rfl
set_option maxRecDepth 20000 in
theorem mw_379 : Cond.methodLink "BlowerBreathLaw" 82 yX4_stroke ∈ bw_tbl := bw_tg (bw_t2 (List.mem_of_getElem? (i := 139) (by decide +kernel))) rfl
set_option maxRecDepth 20000 in
theorem mw_380 : Cond.instanceMethod yX4_stroke ∈ bw_tbl := bw_tg (bw_t2 (List.mem_of_getElem? (i := 140) (by decide +kernel))) rfl
set_option maxRecDepth 20000 in
theorem mw_381 : Cond.selects "BlowerBreath" yX4_stroke yX4_stroke ∈ bw_tbl := bw_tg (bw_t2 (List.mem_of_getElem? (i := 141) (by decide +kernel))) rfl
set_option maxRecDepth 20000 in
theorem mw_382 : Cond.code yX4_stroke cX4_stroke 2 (some FieldType.int) ∈ bw_tbl := bw_tg (bw_t2 (List.mem_of_getElem? (i := 142) rfl)) rfl
set_option maxRecDepth 20000 in
theorem mw_383 : Cond.methodLink "BlowerBreathLaw" 86 yX4_undo ∈ bw_tbl := bw_tg (bw_t2 (List.mem_of_getElem? (i := 143) (by decide +kernel))) rfl
set_option maxRecDepth 20000 in
theorem mw_384 : Cond.instanceMethod yX4_undo ∈ bw_tbl := bw_tg (bw_t2 (List.mem_of_getElem? (i := 144) (by decide +kernel))) rfl
set_option maxRecDepth 20000 in
theorem mw_385 : Cond.selects "BlowerBreath" yX4_undo yX4_undo ∈ bw_tbl := bw_tg (bw_t2 (List.mem_of_getElem? (i := 145) (by decide +kernel))) rfl
set_option maxRecDepth 20000 in
theorem mw_386 : Cond.code yX4_undo cX4_undo 3 (some FieldType.int) ∈ bw_tbl := bw_tg (bw_t2 (List.mem_of_getElem? (i := 146) rfl)) rfl
set_option maxRecDepth 20000 in
theorem mw_387 : Cond.methodLink "BlowerBreath" 178 yX3_relive ∈ bw_tbl := bw_tg (bw_t2 (List.mem_of_getElem? (i := 147) (by decide +kernel))) rfl
set_option maxRecDepth 20000 in
theorem mw_388 : Cond.instanceMethod yX3_relive ∈ bw_tbl := bw_tg (bw_t2 (List.mem_of_getElem? (i := 148) (by decide +kernel))) rfl
set_option maxRecDepth 20000 in
theorem mw_389 : Cond.selects "BlowerBreath$Town" yX3_relive yX3_relive ∈ bw_tbl := bw_tg (bw_t2 (List.mem_of_getElem? (i := 149) (by decide +kernel))) rfl
set_option maxRecDepth 20000 in
theorem mw_390 : Cond.code yX3_relive cX3_relive 3 none ∈ bw_tbl := bw_tg (bw_t2 (List.mem_of_getElem? (i := 150) rfl)) rfl
set_option maxRecDepth 20000 in
theorem mw_391 : Cond.methodLink "BlowerBreath$Town" 68 yX3_undergo ∈ bw_tbl := bw_tg (bw_t2 (List.mem_of_getElem? (i := 151) (by decide +kernel))) rfl
set_option maxRecDepth 20000 in
theorem mw_392 : Cond.methodLink "BlowerBreathLaw" 90 yX4_keep ∈ bw_tbl := bw_tg (bw_t2 (List.mem_of_getElem? (i := 152) (by decide +kernel))) rfl
set_option maxRecDepth 20000 in
theorem mw_393 : Cond.instanceMethod yX4_keep ∈ bw_tbl := bw_tg (bw_t2 (List.mem_of_getElem? (i := 153) (by decide +kernel))) rfl
set_option maxRecDepth 20000 in
theorem mw_394 : Cond.selects "BlowerBreath" yX4_keep yX4_keep ∈ bw_tbl := bw_tg (bw_t2 (List.mem_of_getElem? (i := 154) (by decide +kernel))) rfl
set_option maxRecDepth 20000 in
theorem mw_395 : Cond.code yX4_keep cX4_keep 2 (some FieldType.int) ∈ bw_tbl := bw_tg (bw_t2 (List.mem_of_getElem? (i := 155) rfl)) rfl
set_option maxRecDepth 20000 in
theorem mw_396 : Cond.methodLink "BlowerBreath" 182 yX4_isKeepingPlace ∈ bw_tbl := bw_tg (bw_t2 (List.mem_of_getElem? (i := 156) (by decide +kernel))) rfl
set_option maxRecDepth 20000 in
theorem mw_397 : Cond.static yX4_isKeepingPlace ∈ bw_tbl := bw_tg (bw_t2 (List.mem_of_getElem? (i := 157) (by decide +kernel))) rfl
set_option maxRecDepth 20000 in
theorem mw_398 : Cond.code yX4_isKeepingPlace cX4_isKeepingPlace 1 (some FieldType.boolean) ∈ bw_tbl := bw_tg (bw_t2 (List.mem_of_getElem? (i := 158) rfl)) rfl
set_option maxRecDepth 20000 in
theorem mw_399 : Cond.methodLink "BlowerBreath" 185 yX0_become ∈ bw_tbl := bw_tg (bw_t2 (List.mem_of_getElem? (i := 159) (by decide +kernel))) rfl
set_option maxRecDepth 20000 in
theorem mw_400 : Cond.instanceMethod yX0_become ∈ bw_tbl := bw_tg (bw_t2 (List.mem_of_getElem? (i := 160) (by decide +kernel))) rfl
set_option maxRecDepth 20000 in
theorem mw_401 : Cond.selects "BlowerBreath$Deeds" yX0_become yX0_become ∈ bw_tbl := bw_tg (bw_t2 (List.mem_of_getElem? (i := 161) (by decide +kernel))) rfl
set_option maxRecDepth 20000 in
theorem mw_402 : Cond.code yX0_become cX0_become 2 none ∈ bw_tbl := bw_tg (bw_t2 (List.mem_of_getElem? (i := 162) rfl)) rfl
set_option maxRecDepth 20000 in
theorem mw_403 : Cond.methodLink "BlowerBreath$Deeds" 20 arraycopyName ∈ bw_tbl := bw_tg (bw_t2 (List.mem_of_getElem? (i := 163) (by decide +kernel))) rfl
set_option maxRecDepth 20000 in
theorem mw_404 : Cond.methodLink "BlowerBreathLaw" 94 yX4_on ∈ bw_tbl := bw_tg (bw_t2 (List.mem_of_getElem? (i := 164) (by decide +kernel))) rfl
set_option maxRecDepth 20000 in
theorem mw_405 : Cond.instanceMethod yX4_on ∈ bw_tbl := bw_tg (bw_t2 (List.mem_of_getElem? (i := 165) (by decide +kernel))) rfl
set_option maxRecDepth 20000 in
theorem mw_406 : Cond.selects "BlowerBreath" yX4_on yX4_on ∈ bw_tbl := bw_tg (bw_t2 (List.mem_of_getElem? (i := 166) (by decide +kernel))) rfl
set_option maxRecDepth 20000 in
theorem mw_407 : Cond.code yX4_on cX4_on 2 (some FieldType.int) ∈ bw_tbl := bw_tg (bw_t2 (List.mem_of_getElem? (i := 167) rfl)) rfl
set_option maxRecDepth 20000 in
theorem mw_408 : Cond.methodLink "BlowerBreathLaw" 98 yX4_wants ∈ bw_tbl := bw_tg (bw_t2 (List.mem_of_getElem? (i := 168) (by decide +kernel))) rfl
set_option maxRecDepth 20000 in
theorem mw_409 : Cond.instanceMethod yX4_wants ∈ bw_tbl := bw_tg (bw_t2 (List.mem_of_getElem? (i := 169) (by decide +kernel))) rfl
set_option maxRecDepth 20000 in
theorem mw_410 : Cond.selects "BlowerBreath" yX4_wants yX4_wants ∈ bw_tbl := bw_tg (bw_t2 (List.mem_of_getElem? (i := 170) (by decide +kernel))) rfl
set_option maxRecDepth 20000 in
theorem mw_411 : Cond.code yX4_wants cX4_wants 4 (some FieldType.int) ∈ bw_tbl := bw_tg (bw_t2 (List.mem_of_getElem? (i := 171) rfl)) rfl
set_option maxRecDepth 20000 in
theorem mw_412 : Cond.methodLink "BlowerBreath" 187 yX1_want ∈ bw_tbl := bw_tg (bw_t2 (List.mem_of_getElem? (i := 172) (by decide +kernel))) rfl
set_option maxRecDepth 20000 in
theorem mw_413 : Cond.methodLink "BlowerBreathLaw" 102 yX4_air ∈ bw_tbl := bw_tg (bw_t2 (List.mem_of_getElem? (i := 173) (by decide +kernel))) rfl
set_option maxRecDepth 20000 in
theorem mw_414 : Cond.instanceMethod yX4_air ∈ bw_tbl := bw_tg (bw_t2 (List.mem_of_getElem? (i := 174) (by decide +kernel))) rfl
set_option maxRecDepth 20000 in
theorem mw_415 : Cond.selects "BlowerBreath" yX4_air yX4_air ∈ bw_tbl := bw_tg (bw_t2 (List.mem_of_getElem? (i := 175) (by decide +kernel))) rfl
set_option maxRecDepth 20000 in
theorem mw_416 : Cond.code yX4_air cX4_air 4 (some FieldType.int) ∈ bw_tbl := bw_tg (bw_t2 (List.mem_of_getElem? (i := 176) rfl)) rfl
set_option maxRecDepth 20000 in
theorem mw_417 : Cond.methodLink "BlowerBreath" 191 yX3_blow ∈ bw_tbl := bw_tg (bw_t2 (List.mem_of_getElem? (i := 177) (by decide +kernel))) rfl
set_option maxRecDepth 20000 in
theorem mw_418 : Cond.methodLink "BlowerBreathLaw" 106 yX4_says ∈ bw_tbl := bw_tg (bw_t2 (List.mem_of_getElem? (i := 178) (by decide +kernel))) rfl
set_option maxRecDepth 20000 in
theorem mw_419 : Cond.instanceMethod yX4_says ∈ bw_tbl := bw_tg (bw_t2 (List.mem_of_getElem? (i := 179) (by decide +kernel))) rfl
set_option maxRecDepth 20000 in
theorem mw_420 : Cond.selects "BlowerBreath" yX4_says yX4_says ∈ bw_tbl := bw_tg (bw_t2 (List.mem_of_getElem? (i := 180) (by decide +kernel))) rfl
set_option maxRecDepth 20000 in
theorem mw_421 : Cond.code yX4_says cX4_says 4 (some FieldType.int) ∈ bw_tbl := bw_tg (bw_t2 (List.mem_of_getElem? (i := 181) rfl)) rfl
set_option maxRecDepth 20000 in
theorem mw_422 : Cond.methodLink "BlowerBreathLaw" 110 yX4_first ∈ bw_tbl := bw_tg (bw_t2 (List.mem_of_getElem? (i := 182) (by decide +kernel))) rfl
set_option maxRecDepth 20000 in
theorem mw_423 : Cond.instanceMethod yX4_first ∈ bw_tbl := bw_tg (bw_t2 (List.mem_of_getElem? (i := 183) (by decide +kernel))) rfl
set_option maxRecDepth 20000 in
theorem mw_424 : Cond.selects "BlowerBreath" yX4_first yX4_first ∈ bw_tbl := bw_tg (bw_t2 (List.mem_of_getElem? (i := 184) (by decide +kernel))) rfl
set_option maxRecDepth 20000 in
theorem mw_425 : Cond.code yX4_first cX4_first 3 (some FieldType.int) ∈ bw_tbl := bw_tg (bw_t2 (List.mem_of_getElem? (i := 185) rfl)) rfl
set_option maxRecDepth 20000 in
theorem mw_426 : Cond.methodLink "BlowerBreathLaw" 114 yX4_hush ∈ bw_tbl := bw_tg (bw_t2 (List.mem_of_getElem? (i := 186) (by decide +kernel))) rfl
set_option maxRecDepth 20000 in
theorem mw_427 : Cond.instanceMethod yX4_hush ∈ bw_tbl := bw_tg (bw_t2 (List.mem_of_getElem? (i := 187) (by decide +kernel))) rfl
set_option maxRecDepth 20000 in
theorem mw_428 : Cond.selects "BlowerBreath" yX4_hush yX4_hush ∈ bw_tbl := bw_tg (bw_t2 (List.mem_of_getElem? (i := 188) (by decide +kernel))) rfl
set_option maxRecDepth 20000 in
theorem mw_429 : Cond.code yX4_hush cX4_hush 8 (some FieldType.int) ∈ bw_tbl := bw_tg (bw_t2 (List.mem_of_getElem? (i := 189) rfl)) rfl
set_option maxRecDepth 20000 in
theorem mw_430 : Cond.methodLink "BlowerBreath" 201 yX3_allPipes ∈ bw_tbl := bw_tg (bw_t2 (List.mem_of_getElem? (i := 190) (by decide +kernel))) rfl
set_option maxRecDepth 20000 in
theorem mw_431 : Cond.instanceMethod yX3_allPipes ∈ bw_tbl := bw_tg (bw_t2 (List.mem_of_getElem? (i := 191) (by decide +kernel))) rfl
set_option maxRecDepth 20000 in
theorem mw_432 : Cond.selects "BlowerBreath$Town" yX3_allPipes yX3_allPipes ∈ bw_tbl := bw_tg (bw_t2 (List.mem_of_getElem? (i := 192) (by decide +kernel))) rfl
set_option maxRecDepth 20000 in
theorem mw_433 : Cond.code yX3_allPipes cX3_allPipes 1 (some FieldType.int) ∈ bw_tbl := bw_tg (bw_t2 (List.mem_of_getElem? (i := 193) rfl)) rfl
set_option maxRecDepth 20000 in
theorem mw_434 : Cond.methodLink "BlowerBreath" 207 yJ6_bitCount_0f7a4 ∈ bw_tbl := bw_tg (bw_t2 (List.mem_of_getElem? (i := 194) (by decide +kernel))) rfl
set_option maxRecDepth 20000 in
theorem mw_435 : Cond.static yJ6_bitCount_0f7a4 ∈ bw_tbl := bw_tg (bw_t2 (List.mem_of_getElem? (i := 195) (by decide +kernel))) rfl
set_option maxRecDepth 20000 in
theorem mw_436 : Cond.code yJ6_bitCount_0f7a4 cJ6_bitCount_0f7a4 1 (some FieldType.int) ∈ bw_tbl := bw_tg (bw_t2 (List.mem_of_getElem? (i := 196) rfl)) rfl
set_option maxRecDepth 20000 in
theorem mw_437 : Cond.constant "java/lang/Integer" 265 1431655765 ∈ bw_tbl := bw_tg (bw_t2 (List.mem_of_getElem? (i := 197) (by decide +kernel))) rfl
set_option maxRecDepth 20000 in
theorem mw_438 : Cond.constant "java/lang/Integer" 266 858993459 ∈ bw_tbl := bw_tg (bw_t2 (List.mem_of_getElem? (i := 198) (by decide +kernel))) rfl
set_option maxRecDepth 20000 in
theorem mw_439 : Cond.constant "java/lang/Integer" 267 252645135 ∈ bw_tbl := bw_tg (bw_t2 (List.mem_of_getElem? (i := 199) (by decide +kernel))) rfl
set_option maxRecDepth 20000 in
theorem mw_440 : Cond.methodLink "BlowerBreath" 212 yX4_spokenIfCut ∈ bw_tbl := bw_tg (bw_t2 (List.mem_of_getElem? (i := 200) (by decide +kernel))) rfl
set_option maxRecDepth 20000 in
theorem mw_442 : Cond.instanceMethod yX4_spokenIfCut ∈ bw_tbl := bw_tg (bw_t2 (List.mem_of_getElem? (i := 202) (by decide +kernel))) rfl
set_option maxRecDepth 20000 in
theorem mw_443 : Cond.code yX4_spokenIfCut cX4_spokenIfCut 2 (some FieldType.int) ∈ bw_tbl := bw_tg (bw_t2 (List.mem_of_getElem? (i := 203) rfl)) rfl
set_option maxRecDepth 20000 in
theorem mw_444 : Cond.methodLink "BlowerBreathLaw" 118 yX4_least ∈ bw_tbl := bw_tg (bw_t2 (List.mem_of_getElem? (i := 204) (by decide +kernel))) rfl
set_option maxRecDepth 20000 in
theorem mw_445 : Cond.instanceMethod yX4_least ∈ bw_tbl := bw_tg (bw_t2 (List.mem_of_getElem? (i := 205) (by decide +kernel))) rfl
set_option maxRecDepth 20000 in
theorem mw_446 : Cond.selects "BlowerBreath" yX4_least yX4_least ∈ bw_tbl := bw_tg (bw_t2 (List.mem_of_getElem? (i := 206) (by decide +kernel))) rfl
set_option maxRecDepth 20000 in
theorem mw_447 : Cond.code yX4_least cX4_least 3 (some FieldType.int) ∈ bw_tbl := bw_tg (bw_t2 (List.mem_of_getElem? (i := 207) rfl)) rfl
set_option maxRecDepth 20000 in
theorem mw_448 : Cond.methodLink "BlowerBreathLaw" 122 yX4_hard ∈ bw_tbl := bw_tg (bw_t2 (List.mem_of_getElem? (i := 208) (by decide +kernel))) rfl
set_option maxRecDepth 20000 in
theorem mw_449 : Cond.instanceMethod yX4_hard ∈ bw_tbl := bw_tg (bw_t2 (List.mem_of_getElem? (i := 209) (by decide +kernel))) rfl
set_option maxRecDepth 20000 in
theorem mw_450 : Cond.selects "BlowerBreath" yX4_hard yX4_hard ∈ bw_tbl := bw_tg (bw_t2 (List.mem_of_getElem? (i := 210) (by decide +kernel))) rfl
set_option maxRecDepth 20000 in
theorem mw_451 : Cond.code yX4_hard cX4_hard 4 (some FieldType.int) ∈ bw_tbl := bw_tg (bw_t2 (List.mem_of_getElem? (i := 211) rfl)) rfl
set_option maxRecDepth 20000 in
theorem mw_452 : Cond.methodLink "BlowerBreath" 215 yX3_isSet ∈ bw_tbl := bw_tg (bw_t2 (List.mem_of_getElem? (i := 212) (by decide +kernel))) rfl
set_option maxRecDepth 20000 in
theorem mw_453 : Cond.instanceMethod yX3_isSet ∈ bw_tbl := bw_tg (bw_t2 (List.mem_of_getElem? (i := 213) (by decide +kernel))) rfl
set_option maxRecDepth 20000 in
theorem mw_454 : Cond.selects "BlowerBreath$Town" yX3_isSet yX3_isSet ∈ bw_tbl := bw_tg (bw_t2 (List.mem_of_getElem? (i := 214) (by decide +kernel))) rfl
set_option maxRecDepth 20000 in
theorem mw_455 : Cond.code yX3_isSet cX3_isSet 2 (some FieldType.boolean) ∈ bw_tbl := bw_tg (bw_t2 (List.mem_of_getElem? (i := 215) rfl)) rfl
set_option maxRecDepth 20000 in
theorem mw_456 : Cond.methodLink "BlowerBreath$Town" 50 yX3_allPipes ∈ bw_tbl := bw_tg (bw_t2 (List.mem_of_getElem? (i := 216) (by decide +kernel))) rfl
set_option maxRecDepth 20000 in
theorem mw_457 : Cond.methodLink "BlowerBreath" 218 yX4_speakAlways ∈ bw_tbl := bw_tg (bw_t2 (List.mem_of_getElem? (i := 217) (by decide +kernel))) rfl
set_option maxRecDepth 20000 in
theorem mw_459 : Cond.instanceMethod yX4_speakAlways ∈ bw_tbl := bw_tg (bw_t2 (List.mem_of_getElem? (i := 219) (by decide +kernel))) rfl
set_option maxRecDepth 20000 in
theorem mw_460 : Cond.code yX4_speakAlways cX4_speakAlways 6 (some FieldType.boolean) ∈ bw_tbl := bw_tg (bw_t2 (List.mem_of_getElem? (i := 220) rfl)) rfl
set_option maxRecDepth 20000 in
theorem mw_461 : Cond.methodLink "BlowerBreathLaw" 126 yX4_leaks ∈ bw_tbl := bw_tg (bw_t2 (List.mem_of_getElem? (i := 221) (by decide +kernel))) rfl
set_option maxRecDepth 20000 in
theorem mw_462 : Cond.instanceMethod yX4_leaks ∈ bw_tbl := bw_tg (bw_t2 (List.mem_of_getElem? (i := 222) (by decide +kernel))) rfl
set_option maxRecDepth 20000 in
theorem mw_463 : Cond.selects "BlowerBreath" yX4_leaks yX4_leaks ∈ bw_tbl := bw_tg (bw_t2 (List.mem_of_getElem? (i := 223) (by decide +kernel))) rfl
set_option maxRecDepth 20000 in
theorem mw_464 : Cond.code yX4_leaks cX4_leaks 6 (some FieldType.int) ∈ bw_tbl := bw_tg (bw_t2 (List.mem_of_getElem? (i := 224) rfl)) rfl
set_option maxRecDepth 20000 in
theorem mw_465 : Cond.methodLink "BlowerBreath" 221 yX4_refusedHearing ∈ bw_tbl := bw_tg (bw_t2 (List.mem_of_getElem? (i := 225) (by decide +kernel))) rfl
set_option maxRecDepth 20000 in
theorem mw_467 : Cond.instanceMethod yX4_refusedHearing ∈ bw_tbl := bw_tg (bw_t2 (List.mem_of_getElem? (i := 227) (by decide +kernel))) rfl
set_option maxRecDepth 20000 in
theorem mw_468 : Cond.code yX4_refusedHearing cX4_refusedHearing 4 (some FieldType.int) ∈ bw_tbl := bw_tg (bw_t2 (List.mem_of_getElem? (i := 228) rfl)) rfl
set_option maxRecDepth 20000 in
theorem mw_469 : Cond.methodLink "BlowerBreath" 224 yX4_leakingFits ∈ bw_tbl := bw_tg (bw_t2 (List.mem_of_getElem? (i := 229) (by decide +kernel))) rfl
set_option maxRecDepth 20000 in
theorem mw_471 : Cond.instanceMethod yX4_leakingFits ∈ bw_tbl := bw_tg (bw_t2 (List.mem_of_getElem? (i := 231) (by decide +kernel))) rfl
set_option maxRecDepth 20000 in
theorem mw_472 : Cond.code yX4_leakingFits cX4_leakingFits 3 (some FieldType.boolean) ∈ bw_tbl := bw_tg (bw_t2 (List.mem_of_getElem? (i := 232) rfl)) rfl
set_option maxRecDepth 20000 in
theorem mw_473 : Cond.methodLink "BlowerBreath" 237 yX4_trialSpeaksLike ∈ bw_tbl := bw_tg (bw_t2 (List.mem_of_getElem? (i := 233) (by decide +kernel))) rfl
set_option maxRecDepth 20000 in
theorem mw_475 : Cond.instanceMethod yX4_trialSpeaksLike ∈ bw_tbl := bw_tg (bw_t2 (List.mem_of_getElem? (i := 235) (by decide +kernel))) rfl
set_option maxRecDepth 20000 in
theorem mw_476 : Cond.code yX4_trialSpeaksLike cX4_trialSpeaksLike 4 (some FieldType.boolean) ∈ bw_tbl := bw_tg (bw_t2 (List.mem_of_getElem? (i := 236) rfl)) rfl
set_option maxRecDepth 20000 in
theorem mw_477 : Cond.methodLink "BlowerBreath" 227 yX4_tellShare ∈ bw_tbl := bw_tg (bw_t2 (List.mem_of_getElem? (i := 237) (by decide +kernel))) rfl
set_option maxRecDepth 20000 in
theorem mw_479 : Cond.instanceMethod yX4_tellShare ∈ bw_tbl := bw_tg (bw_t2 (List.mem_of_getElem? (i := 239) (by decide +kernel))) rfl
set_option maxRecDepth 20000 in
theorem mw_480 : Cond.code yX4_tellShare cX4_tellShare 7 none ∈ bw_tbl := bw_tg (bw_t3 (List.mem_of_getElem? (i := 0) rfl)) rfl
set_option maxRecDepth 20000 in
theorem mw_481 : Cond.methodLink "BlowerBreath" 288 yX4_greatestDivisor ∈ bw_tbl := bw_tg (bw_t3 (List.mem_of_getElem? (i := 1) (by decide +kernel))) rfl
set_option maxRecDepth 20000 in
theorem mw_482 : Cond.static yX4_greatestDivisor ∈ bw_tbl := bw_tg (bw_t3 (List.mem_of_getElem? (i := 2) (by decide +kernel))) rfl
set_option maxRecDepth 20000 in
theorem mw_483 : Cond.code yX4_greatestDivisor cX4_greatestDivisor 11 (some FieldType.long) ∈ bw_tbl := bw_tg (bw_t3 (List.mem_of_getElem? (i := 3) rfl)) rfl
set_option maxRecDepth 20000 in
theorem mw_484 : Cond.methodLink "BlowerBreathLaw" 130 yX4_listen ∈ bw_tbl := bw_tg (bw_t3 (List.mem_of_getElem? (i := 4) (by decide +kernel))) rfl
set_option maxRecDepth 20000 in
theorem mw_485 : Cond.instanceMethod yX4_listen ∈ bw_tbl := bw_tg (bw_t3 (List.mem_of_getElem? (i := 5) (by decide +kernel))) rfl
set_option maxRecDepth 20000 in
theorem mw_486 : Cond.selects "BlowerBreath" yX4_listen yX4_listen ∈ bw_tbl := bw_tg (bw_t3 (List.mem_of_getElem? (i := 6) (by decide +kernel))) rfl
set_option maxRecDepth 20000 in
theorem mw_487 : Cond.code yX4_listen cX4_listen 8 (some FieldType.int) ∈ bw_tbl := bw_tg (bw_t3 (List.mem_of_getElem? (i := 7) rfl)) rfl
set_option maxRecDepth 20000 in
theorem mw_488 : Cond.methodLink "BlowerBreath" 231 yX4_tallyNextSpeakers ∈ bw_tbl := bw_tg (bw_t3 (List.mem_of_getElem? (i := 8) (by decide +kernel))) rfl
set_option maxRecDepth 20000 in
theorem mw_490 : Cond.instanceMethod yX4_tallyNextSpeakers ∈ bw_tbl := bw_tg (bw_t3 (List.mem_of_getElem? (i := 10) (by decide +kernel))) rfl
set_option maxRecDepth 20000 in
theorem mw_491 : Cond.code yX4_tallyNextSpeakers cX4_tallyNextSpeakers 6 (some FieldType.int) ∈ bw_tbl := bw_tg (bw_t3 (List.mem_of_getElem? (i := 11) rfl)) rfl
set_option maxRecDepth 20000 in
theorem mw_492 : Cond.methodLink "BlowerBreath" 234 yX4_greaterPart ∈ bw_tbl := bw_tg (bw_t3 (List.mem_of_getElem? (i := 12) (by decide +kernel))) rfl
set_option maxRecDepth 20000 in
theorem mw_494 : Cond.instanceMethod yX4_greaterPart ∈ bw_tbl := bw_tg (bw_t3 (List.mem_of_getElem? (i := 14) (by decide +kernel))) rfl
set_option maxRecDepth 20000 in
theorem mw_495 : Cond.code yX4_greaterPart cX4_greaterPart 3 (some FieldType.int) ∈ bw_tbl := bw_tg (bw_t3 (List.mem_of_getElem? (i := 15) rfl)) rfl
set_option maxRecDepth 20000 in
theorem mw_496 : Cond.methodLink "BlowerBreathLaw" 134 yX4_strokes ∈ bw_tbl := bw_tg (bw_t3 (List.mem_of_getElem? (i := 16) (by decide +kernel))) rfl
set_option maxRecDepth 20000 in
theorem mw_497 : Cond.instanceMethod yX4_strokes ∈ bw_tbl := bw_tg (bw_t3 (List.mem_of_getElem? (i := 17) (by decide +kernel))) rfl
set_option maxRecDepth 20000 in
theorem mw_498 : Cond.selects "BlowerBreath" yX4_strokes yX4_strokes ∈ bw_tbl := bw_tg (bw_t3 (List.mem_of_getElem? (i := 18) (by decide +kernel))) rfl
set_option maxRecDepth 20000 in
theorem mw_499 : Cond.code yX4_strokes cX4_strokes 5 (some FieldType.int) ∈ bw_tbl := bw_tg (bw_t3 (List.mem_of_getElem? (i := 19) rfl)) rfl
set_option maxRecDepth 20000 in
theorem mw_500 : Cond.methodLink "BlowerBreathLaw" 138 yX4_kinds ∈ bw_tbl := bw_tg (bw_t3 (List.mem_of_getElem? (i := 20) (by decide +kernel))) rfl
set_option maxRecDepth 20000 in
theorem mw_501 : Cond.instanceMethod yX4_kinds ∈ bw_tbl := bw_tg (bw_t3 (List.mem_of_getElem? (i := 21) (by decide +kernel))) rfl
set_option maxRecDepth 20000 in
theorem mw_502 : Cond.selects "BlowerBreath" yX4_kinds yX4_kinds ∈ bw_tbl := bw_tg (bw_t3 (List.mem_of_getElem? (i := 22) (by decide +kernel))) rfl
set_option maxRecDepth 20000 in
theorem mw_503 : Cond.code yX4_kinds cX4_kinds 6 (some FieldType.int) ∈ bw_tbl := bw_tg (bw_t3 (List.mem_of_getElem? (i := 23) rfl)) rfl
set_option maxRecDepth 20000 in
theorem mw_504 : Cond.methodLink "BlowerBreathLaw" 142 yX4_sets ∈ bw_tbl := bw_tg (bw_t3 (List.mem_of_getElem? (i := 24) (by decide +kernel))) rfl
set_option maxRecDepth 20000 in
theorem mw_505 : Cond.instanceMethod yX4_sets ∈ bw_tbl := bw_tg (bw_t3 (List.mem_of_getElem? (i := 25) (by decide +kernel))) rfl
set_option maxRecDepth 20000 in
theorem mw_506 : Cond.selects "BlowerBreath" yX4_sets yX4_sets ∈ bw_tbl := bw_tg (bw_t3 (List.mem_of_getElem? (i := 26) (by decide +kernel))) rfl
set_option maxRecDepth 20000 in
theorem mw_507 : Cond.code yX4_sets cX4_sets 6 (some FieldType.int) ∈ bw_tbl := bw_tg (bw_t3 (List.mem_of_getElem? (i := 27) rfl)) rfl
set_option maxRecDepth 20000 in
theorem mw_508 : Cond.methodLink "BlowerBreath" 240 yX4_refusedSum ∈ bw_tbl := bw_tg (bw_t3 (List.mem_of_getElem? (i := 28) (by decide +kernel))) rfl
set_option maxRecDepth 20000 in
theorem mw_510 : Cond.instanceMethod yX4_refusedSum ∈ bw_tbl := bw_tg (bw_t3 (List.mem_of_getElem? (i := 30) (by decide +kernel))) rfl
set_option maxRecDepth 20000 in
theorem mw_511 : Cond.code yX4_refusedSum cX4_refusedSum 2 (some FieldType.int) ∈ bw_tbl := bw_tg (bw_t3 (List.mem_of_getElem? (i := 31) rfl)) rfl
set_option maxRecDepth 20000 in
theorem mw_512 : Cond.methodLink "BlowerBreath" 243 yX3_wantTogether ∈ bw_tbl := bw_tg (bw_t3 (List.mem_of_getElem? (i := 32) (by decide +kernel))) rfl
set_option maxRecDepth 20000 in
theorem mw_513 : Cond.instanceMethod yX3_wantTogether ∈ bw_tbl := bw_tg (bw_t3 (List.mem_of_getElem? (i := 33) (by decide +kernel))) rfl
set_option maxRecDepth 20000 in
theorem mw_514 : Cond.selects "BlowerBreath$Town" yX3_wantTogether yX3_wantTogether ∈ bw_tbl := bw_tg (bw_t3 (List.mem_of_getElem? (i := 34) (by decide +kernel))) rfl
set_option maxRecDepth 20000 in
theorem mw_515 : Cond.code yX3_wantTogether cX3_wantTogether 4 (some FieldType.int) ∈ bw_tbl := bw_tg (bw_t3 (List.mem_of_getElem? (i := 35) rfl)) rfl
set_option maxRecDepth 20000 in
theorem mw_516 : Cond.methodLink "BlowerBreath$Town" 114 yX3_wantNext ∈ bw_tbl := bw_tg (bw_t3 (List.mem_of_getElem? (i := 36) (by decide +kernel))) rfl
set_option maxRecDepth 20000 in
theorem mw_517 : Cond.methodLink "BlowerBreathLaw" 146 yX4_sure ∈ bw_tbl := bw_tg (bw_t3 (List.mem_of_getElem? (i := 37) (by decide +kernel))) rfl
set_option maxRecDepth 20000 in
theorem mw_518 : Cond.instanceMethod yX4_sure ∈ bw_tbl := bw_tg (bw_t3 (List.mem_of_getElem? (i := 38) (by decide +kernel))) rfl
set_option maxRecDepth 20000 in
theorem mw_519 : Cond.selects "BlowerBreath" yX4_sure yX4_sure ∈ bw_tbl := bw_tg (bw_t3 (List.mem_of_getElem? (i := 39) (by decide +kernel))) rfl
set_option maxRecDepth 20000 in
theorem mw_520 : Cond.code yX4_sure cX4_sure 7 (some FieldType.int) ∈ bw_tbl := bw_tg (bw_t3 (List.mem_of_getElem? (i := 40) rfl)) rfl
set_option maxRecDepth 20000 in
theorem mw_521 : Cond.methodLink "BlowerBreathLaw" 150 yX4_duel ∈ bw_tbl := bw_tg (bw_t3 (List.mem_of_getElem? (i := 41) (by decide +kernel))) rfl
set_option maxRecDepth 20000 in
theorem mw_522 : Cond.instanceMethod yX4_duel ∈ bw_tbl := bw_tg (bw_t3 (List.mem_of_getElem? (i := 42) (by decide +kernel))) rfl
set_option maxRecDepth 20000 in
theorem mw_523 : Cond.selects "BlowerBreath" yX4_duel yX4_duel ∈ bw_tbl := bw_tg (bw_t3 (List.mem_of_getElem? (i := 43) (by decide +kernel))) rfl
set_option maxRecDepth 20000 in
theorem mw_524 : Cond.code yX4_duel cX4_duel 5 (some FieldType.int) ∈ bw_tbl := bw_tg (bw_t3 (List.mem_of_getElem? (i := 44) rfl)) rfl
set_option maxRecDepth 20000 in
theorem mw_525 : Cond.methodLink "BlowerBreath" 246 yX4_evenBeyondUneven ∈ bw_tbl := bw_tg (bw_t3 (List.mem_of_getElem? (i := 45) (by decide +kernel))) rfl
set_option maxRecDepth 20000 in
theorem mw_526 : Cond.static yX4_evenBeyondUneven ∈ bw_tbl := bw_tg (bw_t3 (List.mem_of_getElem? (i := 46) (by decide +kernel))) rfl
set_option maxRecDepth 20000 in
theorem mw_527 : Cond.code yX4_evenBeyondUneven cX4_evenBeyondUneven 1 (some FieldType.int) ∈ bw_tbl := bw_tg (bw_t3 (List.mem_of_getElem? (i := 47) rfl)) rfl
set_option maxRecDepth 20000 in
theorem mw_528 : Cond.methodLink "BlowerBreath" 249 yX4_bestGain ∈ bw_tbl := bw_tg (bw_t3 (List.mem_of_getElem? (i := 48) (by decide +kernel))) rfl
set_option maxRecDepth 20000 in
theorem mw_530 : Cond.instanceMethod yX4_bestGain ∈ bw_tbl := bw_tg (bw_t3 (List.mem_of_getElem? (i := 50) (by decide +kernel))) rfl
set_option maxRecDepth 20000 in
theorem mw_531 : Cond.code yX4_bestGain cX4_bestGain 6 (some FieldType.int) ∈ bw_tbl := bw_tg (bw_t3 (List.mem_of_getElem? (i := 51) rfl)) rfl
set_option maxRecDepth 20000 in
theorem mw_532 : Cond.methodLink "BlowerBreath" 304 yJ9_min_7cf53 ∈ bw_tbl := bw_tg (bw_t3 (List.mem_of_getElem? (i := 52) (by decide +kernel))) rfl
set_option maxRecDepth 20000 in
theorem mw_533 : Cond.methodLink "BlowerBreathLaw" 154 yX4_odds ∈ bw_tbl := bw_tg (bw_t3 (List.mem_of_getElem? (i := 53) (by decide +kernel))) rfl
set_option maxRecDepth 20000 in
theorem mw_534 : Cond.instanceMethod yX4_odds ∈ bw_tbl := bw_tg (bw_t3 (List.mem_of_getElem? (i := 54) (by decide +kernel))) rfl
set_option maxRecDepth 20000 in
theorem mw_535 : Cond.selects "BlowerBreath" yX4_odds yX4_odds ∈ bw_tbl := bw_tg (bw_t3 (List.mem_of_getElem? (i := 55) (by decide +kernel))) rfl
set_option maxRecDepth 20000 in
theorem mw_536 : Cond.code yX4_odds cX4_odds 3 (some FieldType.int) ∈ bw_tbl := bw_tg (bw_t3 (List.mem_of_getElem? (i := 56) rfl)) rfl
set_option maxRecDepth 20000 in
theorem mw_537 : Cond.methodLink "BlowerBreath" 253 yX4_tellMeanOfNextHour ∈ bw_tbl := bw_tg (bw_t3 (List.mem_of_getElem? (i := 57) (by decide +kernel))) rfl
set_option maxRecDepth 20000 in
theorem mw_539 : Cond.instanceMethod yX4_tellMeanOfNextHour ∈ bw_tbl := bw_tg (bw_t3 (List.mem_of_getElem? (i := 59) (by decide +kernel))) rfl
set_option maxRecDepth 20000 in
theorem mw_540 : Cond.code yX4_tellMeanOfNextHour cX4_tellMeanOfNextHour 13 none ∈ bw_tbl := bw_tg (bw_t3 (List.mem_of_getElem? (i := 60) rfl)) rfl
set_option maxRecDepth 20000 in
theorem mw_541 : Cond.methodLink "BlowerBreath" 307 yX4_power ∈ bw_tbl := bw_tg (bw_t3 (List.mem_of_getElem? (i := 61) (by decide +kernel))) rfl
set_option maxRecDepth 20000 in
theorem mw_542 : Cond.static yX4_power ∈ bw_tbl := bw_tg (bw_t3 (List.mem_of_getElem? (i := 62) (by decide +kernel))) rfl
set_option maxRecDepth 20000 in
theorem mw_543 : Cond.code yX4_power cX4_power 6 (some FieldType.long) ∈ bw_tbl := bw_tg (bw_t3 (List.mem_of_getElem? (i := 63) rfl)) rfl
set_option maxRecDepth 20000 in
theorem mw_544 : Cond.methodLink "BlowerBreathLaw" 158 yX4_mid ∈ bw_tbl := bw_tg (bw_t3 (List.mem_of_getElem? (i := 64) (by decide +kernel))) rfl
set_option maxRecDepth 20000 in
theorem mw_545 : Cond.instanceMethod yX4_mid ∈ bw_tbl := bw_tg (bw_t3 (List.mem_of_getElem? (i := 65) (by decide +kernel))) rfl
set_option maxRecDepth 20000 in
theorem mw_546 : Cond.selects "BlowerBreath" yX4_mid yX4_mid ∈ bw_tbl := bw_tg (bw_t3 (List.mem_of_getElem? (i := 66) (by decide +kernel))) rfl
set_option maxRecDepth 20000 in
theorem mw_547 : Cond.code yX4_mid cX4_mid 2 (some FieldType.int) ∈ bw_tbl := bw_tg (bw_t3 (List.mem_of_getElem? (i := 67) rfl)) rfl
set_option maxRecDepth 20000 in
theorem mw_548 : Cond.methodLink "BlowerBreathLaw" 162 yX4_lots ∈ bw_tbl := bw_tg (bw_t3 (List.mem_of_getElem? (i := 68) (by decide +kernel))) rfl
set_option maxRecDepth 20000 in
theorem mw_549 : Cond.instanceMethod yX4_lots ∈ bw_tbl := bw_tg (bw_t3 (List.mem_of_getElem? (i := 69) (by decide +kernel))) rfl
set_option maxRecDepth 20000 in
theorem mw_550 : Cond.selects "BlowerBreath" yX4_lots yX4_lots ∈ bw_tbl := bw_tg (bw_t3 (List.mem_of_getElem? (i := 70) (by decide +kernel))) rfl
set_option maxRecDepth 20000 in
theorem mw_551 : Cond.code yX4_lots cX4_lots 6 (some FieldType.int) ∈ bw_tbl := bw_tg (bw_t3 (List.mem_of_getElem? (i := 71) rfl)) rfl
set_option maxRecDepth 20000 in
theorem mw_552 : Cond.constantLong "BlowerBreath" 257 2147483647 ∈ bw_tbl := bw_tg (bw_t3 (List.mem_of_getElem? (i := 72) (by decide +kernel))) rfl
set_option maxRecDepth 20000 in
theorem mw_553 : Cond.constantLong "BlowerBreath" 259 48271 ∈ bw_tbl := bw_tg (bw_t3 (List.mem_of_getElem? (i := 73) (by decide +kernel))) rfl
set_option maxRecDepth 20000 in
theorem mw_554 : Cond.methodLink "BlowerBreath" 261 yX4_performLot ∈ bw_tbl := bw_tg (bw_t3 (List.mem_of_getElem? (i := 74) (by decide +kernel))) rfl
set_option maxRecDepth 20000 in
theorem mw_556 : Cond.instanceMethod yX4_performLot ∈ bw_tbl := bw_tg (bw_t3 (List.mem_of_getElem? (i := 76) (by decide +kernel))) rfl
set_option maxRecDepth 20000 in
theorem mw_557 : Cond.code yX4_performLot cX4_performLot 3 none ∈ bw_tbl := bw_tg (bw_t3 (List.mem_of_getElem? (i := 77) rfl)) rfl
set_option maxRecDepth 20000 in
theorem mw_558 : Cond.methodLink "BlowerBreathLaw" 166 yX4_asked ∈ bw_tbl := bw_tg (bw_t3 (List.mem_of_getElem? (i := 78) (by decide +kernel))) rfl
set_option maxRecDepth 20000 in
theorem mw_559 : Cond.instanceMethod yX4_asked ∈ bw_tbl := bw_tg (bw_t3 (List.mem_of_getElem? (i := 79) (by decide +kernel))) rfl
set_option maxRecDepth 20000 in
theorem mw_560 : Cond.selects "BlowerBreath" yX4_asked yX4_asked ∈ bw_tbl := bw_tg (bw_t3 (List.mem_of_getElem? (i := 80) (by decide +kernel))) rfl
set_option maxRecDepth 20000 in
theorem mw_561 : Cond.code yX4_asked cX4_asked 1 (some FieldType.int) ∈ bw_tbl := bw_tg (bw_t3 (List.mem_of_getElem? (i := 81) rfl)) rfl
set_option maxRecDepth 20000 in
theorem mw_562 : Cond.methodLink "BlowerBreathLaw" 170 yX4_upper ∈ bw_tbl := bw_tg (bw_t3 (List.mem_of_getElem? (i := 82) (by decide +kernel))) rfl
set_option maxRecDepth 20000 in
theorem mw_563 : Cond.instanceMethod yX4_upper ∈ bw_tbl := bw_tg (bw_t3 (List.mem_of_getElem? (i := 83) (by decide +kernel))) rfl
set_option maxRecDepth 20000 in
theorem mw_564 : Cond.selects "BlowerBreath" yX4_upper yX4_upper ∈ bw_tbl := bw_tg (bw_t3 (List.mem_of_getElem? (i := 84) (by decide +kernel))) rfl
set_option maxRecDepth 20000 in
theorem mw_565 : Cond.code yX4_upper cX4_upper 1 (some FieldType.long) ∈ bw_tbl := bw_tg (bw_t3 (List.mem_of_getElem? (i := 85) rfl)) rfl
set_option maxRecDepth 20000 in
theorem mw_566 : Cond.methodLink "BlowerBreathLaw" 175 yX4_lower ∈ bw_tbl := bw_tg (bw_t3 (List.mem_of_getElem? (i := 86) (by decide +kernel))) rfl
set_option maxRecDepth 20000 in
theorem mw_567 : Cond.instanceMethod yX4_lower ∈ bw_tbl := bw_tg (bw_t3 (List.mem_of_getElem? (i := 87) (by decide +kernel))) rfl
set_option maxRecDepth 20000 in
theorem mw_568 : Cond.selects "BlowerBreath" yX4_lower yX4_lower ∈ bw_tbl := bw_tg (bw_t3 (List.mem_of_getElem? (i := 88) (by decide +kernel))) rfl
set_option maxRecDepth 20000 in
theorem mw_569 : Cond.code yX4_lower cX4_lower 1 (some FieldType.long) ∈ bw_tbl := bw_tg (bw_t3 (List.mem_of_getElem? (i := 89) rfl)) rfl
set_option maxRecDepth 20000 in
theorem mw_570 : Cond.methodLink "BlowerBreathLaw" 179 yX4_count ∈ bw_tbl := bw_tg (bw_t3 (List.mem_of_getElem? (i := 90) (by decide +kernel))) rfl
set_option maxRecDepth 20000 in
theorem mw_571 : Cond.instanceMethod yX4_count ∈ bw_tbl := bw_tg (bw_t3 (List.mem_of_getElem? (i := 91) (by decide +kernel))) rfl
set_option maxRecDepth 20000 in
theorem mw_572 : Cond.selects "BlowerBreath" yX4_count yX4_count ∈ bw_tbl := bw_tg (bw_t3 (List.mem_of_getElem? (i := 92) (by decide +kernel))) rfl
set_option maxRecDepth 20000 in
theorem mw_573 : Cond.code yX4_count cX4_count 2 (some FieldType.int) ∈ bw_tbl := bw_tg (bw_t3 (List.mem_of_getElem? (i := 93) rfl)) rfl
set_option maxRecDepth 20000 in
theorem mw_574 : Cond.methodLink "BlowerBreath" 268 yX3_sumOf ∈ bw_tbl := bw_tg (bw_t3 (List.mem_of_getElem? (i := 94) (by decide +kernel))) rfl
set_option maxRecDepth 20000 in
theorem mw_575 : Cond.instanceMethod yX3_sumOf ∈ bw_tbl := bw_tg (bw_t3 (List.mem_of_getElem? (i := 95) (by decide +kernel))) rfl
set_option maxRecDepth 20000 in
theorem mw_576 : Cond.selects "BlowerBreath$Town" yX3_sumOf yX3_sumOf ∈ bw_tbl := bw_tg (bw_t3 (List.mem_of_getElem? (i := 96) (by decide +kernel))) rfl
set_option maxRecDepth 20000 in
theorem mw_577 : Cond.code yX3_sumOf cX3_sumOf 4 (some FieldType.int) ∈ bw_tbl := bw_tg (bw_t3 (List.mem_of_getElem? (i := 97) rfl)) rfl
set_option maxRecDepth 20000 in
theorem mw_578 : Cond.methodLink "BlowerBreath" 272 yX3_pipesOf ∈ bw_tbl := bw_tg (bw_t3 (List.mem_of_getElem? (i := 98) (by decide +kernel))) rfl
set_option maxRecDepth 20000 in
theorem mw_579 : Cond.instanceMethod yX3_pipesOf ∈ bw_tbl := bw_tg (bw_t3 (List.mem_of_getElem? (i := 99) (by decide +kernel))) rfl
set_option maxRecDepth 20000 in
theorem mw_580 : Cond.selects "BlowerBreath$Town" yX3_pipesOf yX3_pipesOf ∈ bw_tbl := bw_tg (bw_t3 (List.mem_of_getElem? (i := 100) (by decide +kernel))) rfl
set_option maxRecDepth 20000 in
theorem mw_581 : Cond.code yX3_pipesOf cX3_pipesOf 4 (some FieldType.int) ∈ bw_tbl := bw_tg (bw_t3 (List.mem_of_getElem? (i := 101) rfl)) rfl
set_option maxRecDepth 20000 in
theorem mw_582 : Cond.methodLink "BlowerBreath$Town" 117 yX1_isOf ∈ bw_tbl := bw_tg (bw_t3 (List.mem_of_getElem? (i := 102) (by decide +kernel))) rfl
set_option maxRecDepth 20000 in
theorem mw_583 : Cond.methodLink "BlowerBreath" 275 yX4_thereOf ∈ bw_tbl := bw_tg (bw_t3 (List.mem_of_getElem? (i := 103) (by decide +kernel))) rfl
set_option maxRecDepth 20000 in
theorem mw_584 : Cond.static yX4_thereOf ∈ bw_tbl := bw_tg (bw_t3 (List.mem_of_getElem? (i := 104) (by decide +kernel))) rfl
set_option maxRecDepth 20000 in
theorem mw_585 : Cond.code yX4_thereOf cX4_thereOf 6 (some FieldType.int) ∈ bw_tbl := bw_tg (bw_t3 (List.mem_of_getElem? (i := 105) rfl)) rfl
set_option maxRecDepth 20000 in
theorem mw_586 : Cond.methodLink "BlowerBreath" 278 yX4_keptTowns ∈ bw_tbl := bw_tg (bw_t3 (List.mem_of_getElem? (i := 106) (by decide +kernel))) rfl
set_option maxRecDepth 20000 in
theorem mw_588 : Cond.instanceMethod yX4_keptTowns ∈ bw_tbl := bw_tg (bw_t3 (List.mem_of_getElem? (i := 108) (by decide +kernel))) rfl
set_option maxRecDepth 20000 in
theorem mw_589 : Cond.code yX4_keptTowns cX4_keptTowns 3 (some FieldType.int) ∈ bw_tbl := bw_tg (bw_t3 (List.mem_of_getElem? (i := 109) rfl)) rfl
set_option maxRecDepth 20000 in
theorem mw_590 : Cond.methodLink "BlowerBreathLaw" 183 yX4_finding ∈ bw_tbl := bw_tg (bw_t3 (List.mem_of_getElem? (i := 110) (by decide +kernel))) rfl
set_option maxRecDepth 20000 in
theorem mw_591 : Cond.instanceMethod yX4_finding ∈ bw_tbl := bw_tg (bw_t3 (List.mem_of_getElem? (i := 111) (by decide +kernel))) rfl
set_option maxRecDepth 20000 in
theorem mw_592 : Cond.selects "BlowerBreath" yX4_finding yX4_finding ∈ bw_tbl := bw_tg (bw_t3 (List.mem_of_getElem? (i := 112) (by decide +kernel))) rfl
set_option maxRecDepth 20000 in
theorem mw_593 : Cond.code yX4_finding cX4_finding 1 (some FieldType.int) ∈ bw_tbl := bw_tg (bw_t3 (List.mem_of_getElem? (i := 113) rfl)) rfl
set_option maxRecDepth 20000 in
theorem mw_594 : Cond.methodLink "BlowerBreathLaw" 187 yX4_findings ∈ bw_tbl := bw_tg (bw_t3 (List.mem_of_getElem? (i := 114) (by decide +kernel))) rfl
set_option maxRecDepth 20000 in
theorem mw_595 : Cond.instanceMethod yX4_findings ∈ bw_tbl := bw_tg (bw_t3 (List.mem_of_getElem? (i := 115) (by decide +kernel))) rfl
set_option maxRecDepth 20000 in
theorem mw_596 : Cond.selects "BlowerBreath" yX4_findings yX4_findings ∈ bw_tbl := bw_tg (bw_t3 (List.mem_of_getElem? (i := 116) (by decide +kernel))) rfl
set_option maxRecDepth 20000 in
theorem mw_597 : Cond.code yX4_findings cX4_findings 2 (some FieldType.int) ∈ bw_tbl := bw_tg (bw_t3 (List.mem_of_getElem? (i := 117) rfl)) rfl
set_option maxRecDepth 20000 in
theorem mw_598 : Cond.methodLink "BlowerBreathLaw" 191 yX4_digest ∈ bw_tbl := bw_tg (bw_t3 (List.mem_of_getElem? (i := 118) (by decide +kernel))) rfl
set_option maxRecDepth 20000 in
theorem mw_599 : Cond.instanceMethod yX4_digest ∈ bw_tbl := bw_tg (bw_t3 (List.mem_of_getElem? (i := 119) (by decide +kernel))) rfl
set_option maxRecDepth 20000 in
theorem mw_600 : Cond.selects "BlowerBreath" yX4_digest yX4_digest ∈ bw_tbl := bw_tg (bw_t3 (List.mem_of_getElem? (i := 120) (by decide +kernel))) rfl
set_option maxRecDepth 20000 in
theorem mw_601 : Cond.code yX4_digest cX4_digest 5 (some FieldType.long) ∈ bw_tbl := bw_tg (bw_t3 (List.mem_of_getElem? (i := 121) rfl)) rfl
set_option maxRecDepth 20000 in
theorem mw_602 : Cond.constantLong "BlowerBreath" 281 17 ∈ bw_tbl := bw_tg (bw_t3 (List.mem_of_getElem? (i := 122) (by decide +kernel))) rfl
set_option maxRecDepth 20000 in
theorem mw_603 : Cond.constantLong "BlowerBreath" 283 31 ∈ bw_tbl := bw_tg (bw_t3 (List.mem_of_getElem? (i := 123) (by decide +kernel))) rfl
set_option maxRecDepth 20000 in
theorem mw_604 : Cond.methodLink "BlowerBreath" 285 yX4_count ∈ bw_tbl := bw_tg (bw_t3 (List.mem_of_getElem? (i := 124) (by decide +kernel))) rfl
set_option maxRecDepth 20000 in
theorem mw_605 : Cond.classLink "BlowerBreathLaw" 10 "BlowerBreathModel" ∈ bw_tbl := bw_tg (bw_t3 (List.mem_of_getElem? (i := 125) (by decide +kernel))) rfl
set_option maxRecDepth 20000 in
theorem mw_606 : Cond.instantiable "BlowerBreathModel" 31 ∈ bw_tbl := bw_tg (bw_t3 (List.mem_of_getElem? (i := 126) (by decide +kernel))) rfl
set_option maxRecDepth 20000 in
theorem mw_607 : Cond.methodLink "BlowerBreathLaw" 12 yX5_init ∈ bw_tbl := bw_tg (bw_t3 (List.mem_of_getElem? (i := 127) (by decide +kernel))) rfl
set_option maxRecDepth 20000 in
theorem mw_608 : Cond.instanceMethod yX5_init ∈ bw_tbl := bw_tg (bw_t3 (List.mem_of_getElem? (i := 128) (by decide +kernel))) rfl
set_option maxRecDepth 20000 in
theorem mw_609 : Cond.code yX5_init cX5_init 2 none ∈ bw_tbl := bw_tg (bw_t3 (List.mem_of_getElem? (i := 129) rfl)) rfl
set_option maxRecDepth 20000 in
theorem mw_610 : Cond.methodLink "BlowerBreathModel" 1 objectInit ∈ bw_tbl := bw_tg (bw_t3 (List.mem_of_getElem? (i := 130) (by decide +kernel))) rfl
set_option maxRecDepth 20000 in
theorem mw_611 : Cond.methodLink "BlowerBreathModel" 68 yX5_forgets ∈ bw_tbl := bw_tg (bw_t3 (List.mem_of_getElem? (i := 131) (by decide +kernel))) rfl
set_option maxRecDepth 20000 in
theorem mw_613 : Cond.instanceMethod yX5_forgets ∈ bw_tbl := bw_tg (bw_t3 (List.mem_of_getElem? (i := 133) (by decide +kernel))) rfl
set_option maxRecDepth 20000 in
theorem mw_614 : Cond.code yX5_forgets cX5_forgets 2 none ∈ bw_tbl := bw_tg (bw_t3 (List.mem_of_getElem? (i := 134) rfl)) rfl
set_option maxRecDepth 20000 in
theorem mw_615 : Cond.fieldLink "BlowerBreathModel" 7 "BlowerBreathModel" "rows" "[I" ∈ bw_tbl := bw_tg (bw_t3 (List.mem_of_getElem? (i := 135) (by decide +kernel))) rfl
set_option maxRecDepth 20000 in
theorem mw_616 : Cond.fieldLink "BlowerBreathModel" 13 "BlowerBreathModel" "rowSizes" "[I" ∈ bw_tbl := bw_tg (bw_t3 (List.mem_of_getElem? (i := 136) (by decide +kernel))) rfl
set_option maxRecDepth 20000 in
theorem mw_617 : Cond.fieldLink "BlowerBreathModel" 16 "BlowerBreathModel" "texts" "[I" ∈ bw_tbl := bw_tg (bw_t3 (List.mem_of_getElem? (i := 137) (by decide +kernel))) rfl
set_option maxRecDepth 20000 in
theorem mw_618 : Cond.fieldLink "BlowerBreathModel" 19 "BlowerBreathModel" "textSizes" "[I" ∈ bw_tbl := bw_tg (bw_t3 (List.mem_of_getElem? (i := 138) (by decide +kernel))) rfl
set_option maxRecDepth 20000 in
theorem mw_619 : Cond.fieldLink "BlowerBreathModel" 75 "BlowerBreathModel" "asked" "I" ∈ bw_tbl := bw_tg (bw_t3 (List.mem_of_getElem? (i := 139) (by decide +kernel))) rfl
set_option maxRecDepth 20000 in
theorem mw_620 : Cond.fieldLink "BlowerBreathModel" 232 "BlowerBreathModel" "upper" "J" ∈ bw_tbl := bw_tg (bw_t3 (List.mem_of_getElem? (i := 140) (by decide +kernel))) rfl
set_option maxRecDepth 20000 in
theorem mw_621 : Cond.fieldLink "BlowerBreathModel" 22 "BlowerBreathModel" "lower" "J" ∈ bw_tbl := bw_tg (bw_t3 (List.mem_of_getElem? (i := 141) (by decide +kernel))) rfl
set_option maxRecDepth 20000 in
theorem mw_622 : Cond.fieldLink "BlowerBreathModel" 71 "BlowerBreathModel" "finding" "I" ∈ bw_tbl := bw_tg (bw_t3 (List.mem_of_getElem? (i := 142) (by decide +kernel))) rfl
set_option maxRecDepth 20000 in
theorem mw_623 : Cond.fieldLink "BlowerBreathModel" 26 "BlowerBreathModel" "findings" "[I" ∈ bw_tbl := bw_tg (bw_t3 (List.mem_of_getElem? (i := 143) (by decide +kernel))) rfl
set_option maxRecDepth 20000 in
theorem mw_624 : Cond.fieldLink "BlowerBreathModel" 148 "BlowerBreathModel" "pipes" "I" ∈ bw_tbl := bw_tg (bw_t3 (List.mem_of_getElem? (i := 144) (by decide +kernel))) rfl
set_option maxRecDepth 20000 in
theorem mw_625 : Cond.fieldLink "BlowerBreathModel" 29 "BlowerBreathModel" "kinds" "[I" ∈ bw_tbl := bw_tg (bw_t3 (List.mem_of_getElem? (i := 145) (by decide +kernel))) rfl
set_option maxRecDepth 20000 in
theorem mw_626 : Cond.fieldLink "BlowerBreathModel" 32 "BlowerBreathModel" "froms" "[I" ∈ bw_tbl := bw_tg (bw_t3 (List.mem_of_getElem? (i := 146) (by decide +kernel))) rfl
set_option maxRecDepth 20000 in
theorem mw_627 : Cond.fieldLink "BlowerBreathModel" 35 "BlowerBreathModel" "needs" "[I" ∈ bw_tbl := bw_tg (bw_t3 (List.mem_of_getElem? (i := 147) (by decide +kernel))) rfl
set_option maxRecDepth 20000 in
theorem mw_628 : Cond.fieldLink "BlowerBreathModel" 38 "BlowerBreathModel" "now" "[I" ∈ bw_tbl := bw_tg (bw_t3 (List.mem_of_getElem? (i := 148) (by decide +kernel))) rfl
set_option maxRecDepth 20000 in
theorem mw_629 : Cond.fieldLink "BlowerBreathModel" 41 "BlowerBreathModel" "aside" "[I" ∈ bw_tbl := bw_tg (bw_t3 (List.mem_of_getElem? (i := 149) (by decide +kernel))) rfl
set_option maxRecDepth 20000 in
theorem mw_630 : Cond.fieldLink "BlowerBreathModel" 44 "BlowerBreathModel" "ahead" "[I" ∈ bw_tbl := bw_tg (bw_t3 (List.mem_of_getElem? (i := 150) (by decide +kernel))) rfl
set_option maxRecDepth 20000 in
theorem mw_631 : Cond.fieldLink "BlowerBreathModel" 100 "BlowerBreathModel" "deeds" "I" ∈ bw_tbl := bw_tg (bw_t3 (List.mem_of_getElem? (i := 151) (by decide +kernel))) rfl
set_option maxRecDepth 20000 in
theorem mw_632 : Cond.fieldLink "BlowerBreathModel" 47 "BlowerBreathModel" "kept" "[I" ∈ bw_tbl := bw_tg (bw_t3 (List.mem_of_getElem? (i := 152) (by decide +kernel))) rfl
set_option maxRecDepth 20000 in
theorem mw_633 : Cond.fieldLink "BlowerBreathModel" 103 "BlowerBreathModel" "at" "I" ∈ bw_tbl := bw_tg (bw_t3 (List.mem_of_getElem? (i := 153) (by decide +kernel))) rfl
set_option maxRecDepth 20000 in
theorem mw_634 : Cond.fieldLink "BlowerBreathModel" 106 "BlowerBreathModel" "size" "I" ∈ bw_tbl := bw_tg (bw_t3 (List.mem_of_getElem? (i := 154) (by decide +kernel))) rfl
set_option maxRecDepth 20000 in
theorem mw_635 : Cond.fieldLink "BlowerBreathModel" 109 "BlowerBreathModel" "which" "I" ∈ bw_tbl := bw_tg (bw_t3 (List.mem_of_getElem? (i := 155) (by decide +kernel))) rfl
set_option maxRecDepth 20000 in
theorem mw_636 : Cond.fieldLink "BlowerBreathModel" 116 "BlowerBreathModel" "value" "I" ∈ bw_tbl := bw_tg (bw_t3 (List.mem_of_getElem? (i := 156) (by decide +kernel))) rfl
set_option maxRecDepth 20000 in
theorem mw_637 : Cond.fieldLink "BlowerBreathModel" 126 "BlowerBreathModel" "readAir" "I" ∈ bw_tbl := bw_tg (bw_t3 (List.mem_of_getElem? (i := 157) (by decide +kernel))) rfl
set_option maxRecDepth 20000 in
theorem mw_638 : Cond.fieldLink "BlowerBreathModel" 129 "BlowerBreathModel" "readStroke" "I" ∈ bw_tbl := bw_tg (bw_t3 (List.mem_of_getElem? (i := 158) (by decide +kernel))) rfl
set_option maxRecDepth 20000 in
theorem mw_639 : Cond.fieldLink "BlowerBreathModel" 135 "BlowerBreathModel" "readPipes" "I" ∈ bw_tbl := bw_tg (bw_t3 (List.mem_of_getElem? (i := 159) (by decide +kernel))) rfl
set_option maxRecDepth 20000 in
theorem mw_640 : Cond.fieldLink "BlowerBreathModel" 50 "BlowerBreathModel" "readKinds" "[I" ∈ bw_tbl := bw_tg (bw_t3 (List.mem_of_getElem? (i := 160) (by decide +kernel))) rfl
set_option maxRecDepth 20000 in
theorem mw_641 : Cond.fieldLink "BlowerBreathModel" 53 "BlowerBreathModel" "readFroms" "[I" ∈ bw_tbl := bw_tg (bw_t3 (List.mem_of_getElem? (i := 161) (by decide +kernel))) rfl
set_option maxRecDepth 20000 in
theorem mw_642 : Cond.fieldLink "BlowerBreathModel" 56 "BlowerBreathModel" "readNeeds" "[I" ∈ bw_tbl := bw_tg (bw_t3 (List.mem_of_getElem? (i := 162) (by decide +kernel))) rfl
set_option maxRecDepth 20000 in
theorem mw_643 : Cond.fieldLink "BlowerBreathModel" 59 "BlowerBreathModel" "says" "[I" ∈ bw_tbl := bw_tg (bw_t3 (List.mem_of_getElem? (i := 163) (by decide +kernel))) rfl
set_option maxRecDepth 20000 in
theorem mw_644 : Cond.fieldLink "BlowerBreathModel" 62 "BlowerBreathModel" "worth" "[I" ∈ bw_tbl := bw_tg (bw_t3 (List.mem_of_getElem? (i := 164) (by decide +kernel))) rfl
set_option maxRecDepth 20000 in
theorem mw_645 : Cond.fieldLink "BlowerBreathModel" 65 "BlowerBreathModel" "then" "[I" ∈ bw_tbl := bw_tg (bw_t3 (List.mem_of_getElem? (i := 165) (by decide +kernel))) rfl
set_option maxRecDepth 20000 in
theorem mw_646 : Cond.laysFinal "BlowerBreathModel" "BlowerBreathModel" "rows" "[I" ∈ bw_tbl := bw_tg (bw_t3 (List.mem_of_getElem? (i := 166) (by decide +kernel))) rfl
set_option maxRecDepth 20000 in
theorem mw_648 : Cond.laysFinal "BlowerBreathModel" "BlowerBreathModel" "rowSizes" "[I" ∈ bw_tbl := bw_tg (bw_t3 (List.mem_of_getElem? (i := 168) (by decide +kernel))) rfl
set_option maxRecDepth 20000 in
theorem mw_650 : Cond.laysFinal "BlowerBreathModel" "BlowerBreathModel" "texts" "[I" ∈ bw_tbl := bw_tg (bw_t3 (List.mem_of_getElem? (i := 170) (by decide +kernel))) rfl
set_option maxRecDepth 20000 in
theorem mw_652 : Cond.laysFinal "BlowerBreathModel" "BlowerBreathModel" "textSizes" "[I" ∈ bw_tbl := bw_tg (bw_t3 (List.mem_of_getElem? (i := 172) (by decide +kernel))) rfl
set_option maxRecDepth 20000 in
theorem mw_654 : Cond.lays "BlowerBreathModel" "BlowerBreathModel" "asked" "I" ∈ bw_tbl := bw_tg (bw_t3 (List.mem_of_getElem? (i := 174) (by decide +kernel))) rfl
set_option maxRecDepth 20000 in
theorem mw_656 : Cond.lays "BlowerBreathModel" "BlowerBreathModel" "upper" "J" ∈ bw_tbl := bw_tg (bw_t3 (List.mem_of_getElem? (i := 176) (by decide +kernel))) rfl
set_option maxRecDepth 20000 in
theorem mw_658 : Cond.lays "BlowerBreathModel" "BlowerBreathModel" "lower" "J" ∈ bw_tbl := bw_tg (bw_t3 (List.mem_of_getElem? (i := 178) (by decide +kernel))) rfl
set_option maxRecDepth 20000 in
theorem mw_660 : Cond.lays "BlowerBreathModel" "BlowerBreathModel" "finding" "I" ∈ bw_tbl := bw_tg (bw_t3 (List.mem_of_getElem? (i := 180) (by decide +kernel))) rfl
set_option maxRecDepth 20000 in
theorem mw_662 : Cond.laysFinal "BlowerBreathModel" "BlowerBreathModel" "findings" "[I" ∈ bw_tbl := bw_tg (bw_t3 (List.mem_of_getElem? (i := 182) (by decide +kernel))) rfl
set_option maxRecDepth 20000 in
theorem mw_664 : Cond.lays "BlowerBreathModel" "BlowerBreathModel" "pipes" "I" ∈ bw_tbl := bw_tg (bw_t3 (List.mem_of_getElem? (i := 184) (by decide +kernel))) rfl
set_option maxRecDepth 20000 in
theorem mw_666 : Cond.laysFinal "BlowerBreathModel" "BlowerBreathModel" "kinds" "[I" ∈ bw_tbl := bw_tg (bw_t3 (List.mem_of_getElem? (i := 186) (by decide +kernel))) rfl
set_option maxRecDepth 20000 in
theorem mw_668 : Cond.laysFinal "BlowerBreathModel" "BlowerBreathModel" "froms" "[I" ∈ bw_tbl := bw_tg (bw_t3 (List.mem_of_getElem? (i := 188) (by decide +kernel))) rfl
set_option maxRecDepth 20000 in
theorem mw_670 : Cond.laysFinal "BlowerBreathModel" "BlowerBreathModel" "needs" "[I" ∈ bw_tbl := bw_tg (bw_t3 (List.mem_of_getElem? (i := 190) (by decide +kernel))) rfl
set_option maxRecDepth 20000 in
theorem mw_672 : Cond.laysFinal "BlowerBreathModel" "BlowerBreathModel" "now" "[I" ∈ bw_tbl := bw_tg (bw_t3 (List.mem_of_getElem? (i := 192) (by decide +kernel))) rfl
set_option maxRecDepth 20000 in
theorem mw_674 : Cond.laysFinal "BlowerBreathModel" "BlowerBreathModel" "aside" "[I" ∈ bw_tbl := bw_tg (bw_t3 (List.mem_of_getElem? (i := 194) (by decide +kernel))) rfl
set_option maxRecDepth 20000 in
theorem mw_676 : Cond.laysFinal "BlowerBreathModel" "BlowerBreathModel" "ahead" "[I" ∈ bw_tbl := bw_tg (bw_t3 (List.mem_of_getElem? (i := 196) (by decide +kernel))) rfl
set_option maxRecDepth 20000 in
theorem mw_678 : Cond.lays "BlowerBreathModel" "BlowerBreathModel" "deeds" "I" ∈ bw_tbl := bw_tg (bw_t3 (List.mem_of_getElem? (i := 198) (by decide +kernel))) rfl
set_option maxRecDepth 20000 in
theorem mw_680 : Cond.laysFinal "BlowerBreathModel" "BlowerBreathModel" "kept" "[I" ∈ bw_tbl := bw_tg (bw_t3 (List.mem_of_getElem? (i := 200) (by decide +kernel))) rfl
set_option maxRecDepth 20000 in
theorem mw_682 : Cond.lays "BlowerBreathModel" "BlowerBreathModel" "at" "I" ∈ bw_tbl := bw_tg (bw_t3 (List.mem_of_getElem? (i := 202) (by decide +kernel))) rfl
set_option maxRecDepth 20000 in
theorem mw_684 : Cond.lays "BlowerBreathModel" "BlowerBreathModel" "size" "I" ∈ bw_tbl := bw_tg (bw_t3 (List.mem_of_getElem? (i := 204) (by decide +kernel))) rfl
set_option maxRecDepth 20000 in
theorem mw_686 : Cond.lays "BlowerBreathModel" "BlowerBreathModel" "which" "I" ∈ bw_tbl := bw_tg (bw_t3 (List.mem_of_getElem? (i := 206) (by decide +kernel))) rfl
set_option maxRecDepth 20000 in
theorem mw_688 : Cond.lays "BlowerBreathModel" "BlowerBreathModel" "value" "I" ∈ bw_tbl := bw_tg (bw_t3 (List.mem_of_getElem? (i := 208) (by decide +kernel))) rfl
set_option maxRecDepth 20000 in
theorem mw_690 : Cond.lays "BlowerBreathModel" "BlowerBreathModel" "readAir" "I" ∈ bw_tbl := bw_tg (bw_t3 (List.mem_of_getElem? (i := 210) (by decide +kernel))) rfl
set_option maxRecDepth 20000 in
theorem mw_692 : Cond.lays "BlowerBreathModel" "BlowerBreathModel" "readStroke" "I" ∈ bw_tbl := bw_tg (bw_t3 (List.mem_of_getElem? (i := 212) (by decide +kernel))) rfl
set_option maxRecDepth 20000 in
theorem mw_694 : Cond.lays "BlowerBreathModel" "BlowerBreathModel" "readPipes" "I" ∈ bw_tbl := bw_tg (bw_t3 (List.mem_of_getElem? (i := 214) (by decide +kernel))) rfl
set_option maxRecDepth 20000 in
theorem mw_696 : Cond.laysFinal "BlowerBreathModel" "BlowerBreathModel" "readKinds" "[I" ∈ bw_tbl := bw_tg (bw_t3 (List.mem_of_getElem? (i := 216) (by decide +kernel))) rfl
set_option maxRecDepth 20000 in
theorem mw_698 : Cond.laysFinal "BlowerBreathModel" "BlowerBreathModel" "readFroms" "[I" ∈ bw_tbl := bw_tg (bw_t3 (List.mem_of_getElem? (i := 218) (by decide +kernel))) rfl
set_option maxRecDepth 20000 in
theorem mw_700 : Cond.laysFinal "BlowerBreathModel" "BlowerBreathModel" "readNeeds" "[I" ∈ bw_tbl := bw_tg (bw_t3 (List.mem_of_getElem? (i := 220) (by decide +kernel))) rfl
set_option maxRecDepth 20000 in
theorem mw_702 : Cond.laysFinal "BlowerBreathModel" "BlowerBreathModel" "says" "[I" ∈ bw_tbl := bw_tg (bw_t3 (List.mem_of_getElem? (i := 222) (by decide +kernel))) rfl
set_option maxRecDepth 20000 in
theorem mw_704 : Cond.laysFinal "BlowerBreathModel" "BlowerBreathModel" "worth" "[I" ∈ bw_tbl := bw_tg (bw_t3 (List.mem_of_getElem? (i := 224) (by decide +kernel))) rfl
set_option maxRecDepth 20000 in
theorem mw_706 : Cond.laysFinal "BlowerBreathModel" "BlowerBreathModel" "then" "[I" ∈ bw_tbl := bw_tg (bw_t3 (List.mem_of_getElem? (i := 226) (by decide +kernel))) rfl
set_option maxRecDepth 20000 in
theorem mw_709 : Cond.methodLink "BlowerBreathLaw" 17 yX5_row ∈ bw_tbl := bw_tg (bw_t3 (List.mem_of_getElem? (i := 229) (by decide +kernel))) rfl
set_option maxRecDepth 20000 in
theorem mw_710 : Cond.instanceMethod yX5_row ∈ bw_tbl := bw_tg (bw_t3 (List.mem_of_getElem? (i := 230) (by decide +kernel))) rfl
set_option maxRecDepth 20000 in
theorem mw_711 : Cond.selects "BlowerBreathModel" yX5_row yX5_row ∈ bw_tbl := bw_tg (bw_t3 (List.mem_of_getElem? (i := 231) (by decide +kernel))) rfl
set_option maxRecDepth 20000 in
theorem mw_712 : Cond.code yX5_row cX5_row 4 (some FieldType.int) ∈ bw_tbl := bw_tg (bw_t3 (List.mem_of_getElem? (i := 232) rfl)) rfl
set_option maxRecDepth 20000 in
theorem mw_713 : Cond.methodLink "BlowerBreathModel" 86 yX5_isRow ∈ bw_tbl := bw_tg (bw_t3 (List.mem_of_getElem? (i := 233) (by decide +kernel))) rfl
set_option maxRecDepth 20000 in
theorem mw_714 : Cond.static yX5_isRow ∈ bw_tbl := bw_tg (bw_t3 (List.mem_of_getElem? (i := 234) (by decide +kernel))) rfl
set_option maxRecDepth 20000 in
theorem mw_715 : Cond.code yX5_isRow cX5_isRow 1 (some FieldType.boolean) ∈ bw_tbl := bw_tg (bw_t3 (List.mem_of_getElem? (i := 235) rfl)) rfl
set_option maxRecDepth 20000 in
theorem mw_716 : Cond.constantLong "BlowerBreathModel" 78 5 ∈ bw_tbl := bw_tg (bw_t3 (List.mem_of_getElem? (i := 236) (by decide +kernel))) rfl
set_option maxRecDepth 20000 in
theorem mw_717 : Cond.methodLink "BlowerBreathModel" 80 yX5_in ∈ bw_tbl := bw_tg (bw_t3 (List.mem_of_getElem? (i := 237) (by decide +kernel))) rfl
set_option maxRecDepth 20000 in
theorem mw_718 : Cond.static yX5_in ∈ bw_tbl := bw_tg (bw_t3 (List.mem_of_getElem? (i := 238) (by decide +kernel))) rfl
set_option maxRecDepth 20000 in
theorem mw_719 : Cond.code yX5_in cX5_in 6 (some FieldType.boolean) ∈ bw_tbl := bw_tg (bw_t3 (List.mem_of_getElem? (i := 239) rfl)) rfl
set_option maxRecDepth 20000 in
theorem mw_720 : Cond.methodLink "BlowerBreathModel" 90 yX5_found ∈ bw_tbl := bw_tg (bw_t4 (List.mem_of_getElem? (i := 0) (by decide +kernel))) rfl
set_option maxRecDepth 20000 in
theorem mw_722 : Cond.instanceMethod yX5_found ∈ bw_tbl := bw_tg (bw_t4 (List.mem_of_getElem? (i := 2) (by decide +kernel))) rfl
set_option maxRecDepth 20000 in
theorem mw_723 : Cond.code yX5_found cX5_found 2 (some FieldType.int) ∈ bw_tbl := bw_tg (bw_t4 (List.mem_of_getElem? (i := 3) rfl)) rfl
set_option maxRecDepth 20000 in
theorem mw_724 : Cond.methodLink "BlowerBreathLaw" 22 yX5_lay ∈ bw_tbl := bw_tg (bw_t4 (List.mem_of_getElem? (i := 4) (by decide +kernel))) rfl
set_option maxRecDepth 20000 in
theorem mw_725 : Cond.instanceMethod yX5_lay ∈ bw_tbl := bw_tg (bw_t4 (List.mem_of_getElem? (i := 5) (by decide +kernel))) rfl
set_option maxRecDepth 20000 in
theorem mw_726 : Cond.selects "BlowerBreathModel" yX5_lay yX5_lay ∈ bw_tbl := bw_tg (bw_t4 (List.mem_of_getElem? (i := 6) (by decide +kernel))) rfl
set_option maxRecDepth 20000 in
theorem mw_727 : Cond.code yX5_lay cX5_lay 5 (some FieldType.int) ∈ bw_tbl := bw_tg (bw_t4 (List.mem_of_getElem? (i := 7) rfl)) rfl
set_option maxRecDepth 20000 in
theorem mw_728 : Cond.methodLink "BlowerBreathModel" 94 yX5_tell ∈ bw_tbl := bw_tg (bw_t4 (List.mem_of_getElem? (i := 8) (by decide +kernel))) rfl
set_option maxRecDepth 20000 in
theorem mw_730 : Cond.instanceMethod yX5_tell ∈ bw_tbl := bw_tg (bw_t4 (List.mem_of_getElem? (i := 10) (by decide +kernel))) rfl
set_option maxRecDepth 20000 in
theorem mw_731 : Cond.code yX5_tell cX5_tell 2 (some FieldType.int) ∈ bw_tbl := bw_tg (bw_t4 (List.mem_of_getElem? (i := 11) rfl)) rfl
set_option maxRecDepth 20000 in
theorem mw_732 : Cond.methodLink "BlowerBreathLaw" 26 yX5_at ∈ bw_tbl := bw_tg (bw_t4 (List.mem_of_getElem? (i := 12) (by decide +kernel))) rfl
set_option maxRecDepth 20000 in
theorem mw_733 : Cond.instanceMethod yX5_at ∈ bw_tbl := bw_tg (bw_t4 (List.mem_of_getElem? (i := 13) (by decide +kernel))) rfl
set_option maxRecDepth 20000 in
theorem mw_734 : Cond.selects "BlowerBreathModel" yX5_at yX5_at ∈ bw_tbl := bw_tg (bw_t4 (List.mem_of_getElem? (i := 14) (by decide +kernel))) rfl
set_option maxRecDepth 20000 in
theorem mw_735 : Cond.code yX5_at cX5_at 3 (some FieldType.int) ∈ bw_tbl := bw_tg (bw_t4 (List.mem_of_getElem? (i := 15) rfl)) rfl
set_option maxRecDepth 20000 in
theorem mw_736 : Cond.methodLink "BlowerBreathLaw" 31 yX5_tear ∈ bw_tbl := bw_tg (bw_t4 (List.mem_of_getElem? (i := 16) (by decide +kernel))) rfl
set_option maxRecDepth 20000 in
theorem mw_737 : Cond.instanceMethod yX5_tear ∈ bw_tbl := bw_tg (bw_t4 (List.mem_of_getElem? (i := 17) (by decide +kernel))) rfl
set_option maxRecDepth 20000 in
theorem mw_738 : Cond.selects "BlowerBreathModel" yX5_tear yX5_tear ∈ bw_tbl := bw_tg (bw_t4 (List.mem_of_getElem? (i := 18) (by decide +kernel))) rfl
set_option maxRecDepth 20000 in
theorem mw_739 : Cond.code yX5_tear cX5_tear 2 (some FieldType.int) ∈ bw_tbl := bw_tg (bw_t4 (List.mem_of_getElem? (i := 19) rfl)) rfl
set_option maxRecDepth 20000 in
theorem mw_740 : Cond.methodLink "BlowerBreathLaw" 36 yX5_copy ∈ bw_tbl := bw_tg (bw_t4 (List.mem_of_getElem? (i := 20) (by decide +kernel))) rfl
set_option maxRecDepth 20000 in
theorem mw_741 : Cond.instanceMethod yX5_copy ∈ bw_tbl := bw_tg (bw_t4 (List.mem_of_getElem? (i := 21) (by decide +kernel))) rfl
set_option maxRecDepth 20000 in
theorem mw_742 : Cond.selects "BlowerBreathModel" yX5_copy yX5_copy ∈ bw_tbl := bw_tg (bw_t4 (List.mem_of_getElem? (i := 22) (by decide +kernel))) rfl
set_option maxRecDepth 20000 in
theorem mw_743 : Cond.code yX5_copy cX5_copy 8 (some FieldType.int) ∈ bw_tbl := bw_tg (bw_t4 (List.mem_of_getElem? (i := 23) rfl)) rfl
set_option maxRecDepth 20000 in
theorem mw_744 : Cond.methodLink "BlowerBreathLaw" 40 yX5_mean ∈ bw_tbl := bw_tg (bw_t4 (List.mem_of_getElem? (i := 24) (by decide +kernel))) rfl
set_option maxRecDepth 20000 in
theorem mw_745 : Cond.instanceMethod yX5_mean ∈ bw_tbl := bw_tg (bw_t4 (List.mem_of_getElem? (i := 25) (by decide +kernel))) rfl
set_option maxRecDepth 20000 in
theorem mw_746 : Cond.selects "BlowerBreathModel" yX5_mean yX5_mean ∈ bw_tbl := bw_tg (bw_t4 (List.mem_of_getElem? (i := 26) (by decide +kernel))) rfl
set_option maxRecDepth 20000 in
theorem mw_747 : Cond.code yX5_mean cX5_mean 5 (some FieldType.int) ∈ bw_tbl := bw_tg (bw_t4 (List.mem_of_getElem? (i := 27) rfl)) rfl
set_option maxRecDepth 20000 in
theorem mw_748 : Cond.methodLink "BlowerBreathLaw" 44 yX5_text ∈ bw_tbl := bw_tg (bw_t4 (List.mem_of_getElem? (i := 28) (by decide +kernel))) rfl
set_option maxRecDepth 20000 in
theorem mw_749 : Cond.instanceMethod yX5_text ∈ bw_tbl := bw_tg (bw_t4 (List.mem_of_getElem? (i := 29) (by decide +kernel))) rfl
set_option maxRecDepth 20000 in
theorem mw_750 : Cond.selects "BlowerBreathModel" yX5_text yX5_text ∈ bw_tbl := bw_tg (bw_t4 (List.mem_of_getElem? (i := 30) (by decide +kernel))) rfl
set_option maxRecDepth 20000 in
theorem mw_751 : Cond.code yX5_text cX5_text 4 (some FieldType.int) ∈ bw_tbl := bw_tg (bw_t4 (List.mem_of_getElem? (i := 31) rfl)) rfl
set_option maxRecDepth 20000 in
theorem mw_752 : Cond.methodLink "BlowerBreathModel" 97 yX5_isText ∈ bw_tbl := bw_tg (bw_t4 (List.mem_of_getElem? (i := 32) (by decide +kernel))) rfl
set_option maxRecDepth 20000 in
theorem mw_753 : Cond.static yX5_isText ∈ bw_tbl := bw_tg (bw_t4 (List.mem_of_getElem? (i := 33) (by decide +kernel))) rfl
set_option maxRecDepth 20000 in
theorem mw_754 : Cond.code yX5_isText cX5_isText 1 (some FieldType.boolean) ∈ bw_tbl := bw_tg (bw_t4 (List.mem_of_getElem? (i := 34) rfl)) rfl
set_option maxRecDepth 20000 in
theorem mw_755 : Cond.constantLong "BlowerBreathModel" 84 3 ∈ bw_tbl := bw_tg (bw_t4 (List.mem_of_getElem? (i := 35) (by decide +kernel))) rfl
set_option maxRecDepth 20000 in
theorem mw_756 : Cond.methodLink "BlowerBreathLaw" 48 yX5_put ∈ bw_tbl := bw_tg (bw_t4 (List.mem_of_getElem? (i := 36) (by decide +kernel))) rfl
set_option maxRecDepth 20000 in
theorem mw_757 : Cond.instanceMethod yX5_put ∈ bw_tbl := bw_tg (bw_t4 (List.mem_of_getElem? (i := 37) (by decide +kernel))) rfl
set_option maxRecDepth 20000 in
theorem mw_758 : Cond.selects "BlowerBreathModel" yX5_put yX5_put ∈ bw_tbl := bw_tg (bw_t4 (List.mem_of_getElem? (i := 38) (by decide +kernel))) rfl
set_option maxRecDepth 20000 in
theorem mw_759 : Cond.code yX5_put cX5_put 5 (some FieldType.int) ∈ bw_tbl := bw_tg (bw_t4 (List.mem_of_getElem? (i := 39) rfl)) rfl
set_option maxRecDepth 20000 in
theorem mw_760 : Cond.methodLink "BlowerBreathLaw" 52 yX5_fault ∈ bw_tbl := bw_tg (bw_t4 (List.mem_of_getElem? (i := 40) (by decide +kernel))) rfl
set_option maxRecDepth 20000 in
theorem mw_761 : Cond.instanceMethod yX5_fault ∈ bw_tbl := bw_tg (bw_t4 (List.mem_of_getElem? (i := 41) (by decide +kernel))) rfl
set_option maxRecDepth 20000 in
theorem mw_762 : Cond.selects "BlowerBreathModel" yX5_fault yX5_fault ∈ bw_tbl := bw_tg (bw_t4 (List.mem_of_getElem? (i := 42) (by decide +kernel))) rfl
set_option maxRecDepth 20000 in
theorem mw_763 : Cond.code yX5_fault cX5_fault 2 (some FieldType.int) ∈ bw_tbl := bw_tg (bw_t4 (List.mem_of_getElem? (i := 43) rfl)) rfl
set_option maxRecDepth 20000 in
theorem mw_764 : Cond.methodLink "BlowerBreathModel" 145 yX5_reads ∈ bw_tbl := bw_tg (bw_t4 (List.mem_of_getElem? (i := 44) (by decide +kernel))) rfl
set_option maxRecDepth 20000 in
theorem mw_766 : Cond.instanceMethod yX5_reads ∈ bw_tbl := bw_tg (bw_t4 (List.mem_of_getElem? (i := 46) (by decide +kernel))) rfl
set_option maxRecDepth 20000 in
theorem mw_767 : Cond.code yX5_reads cX5_reads 3 (some FieldType.int) ∈ bw_tbl := bw_tg (bw_t4 (List.mem_of_getElem? (i := 47) rfl)) rfl
set_option maxRecDepth 20000 in
theorem mw_768 : Cond.methodLink "BlowerBreathModel" 138 yX5_readsHead ∈ bw_tbl := bw_tg (bw_t4 (List.mem_of_getElem? (i := 48) (by decide +kernel))) rfl
set_option maxRecDepth 20000 in
theorem mw_770 : Cond.instanceMethod yX5_readsHead ∈ bw_tbl := bw_tg (bw_t4 (List.mem_of_getElem? (i := 50) (by decide +kernel))) rfl
set_option maxRecDepth 20000 in
theorem mw_771 : Cond.code yX5_readsHead cX5_readsHead 2 (some FieldType.boolean) ∈ bw_tbl := bw_tg (bw_t4 (List.mem_of_getElem? (i := 51) rfl)) rfl
set_option maxRecDepth 20000 in
theorem mw_772 : Cond.methodLink "BlowerBreathModel" 119 yX5_skips ∈ bw_tbl := bw_tg (bw_t4 (List.mem_of_getElem? (i := 52) (by decide +kernel))) rfl
set_option maxRecDepth 20000 in
theorem mw_774 : Cond.instanceMethod yX5_skips ∈ bw_tbl := bw_tg (bw_t4 (List.mem_of_getElem? (i := 54) (by decide +kernel))) rfl
set_option maxRecDepth 20000 in
theorem mw_775 : Cond.code yX5_skips cX5_skips 1 none ∈ bw_tbl := bw_tg (bw_t4 (List.mem_of_getElem? (i := 55) rfl)) rfl
set_option maxRecDepth 20000 in
theorem mw_776 : Cond.methodLink "BlowerBreathModel" 112 yX5_here ∈ bw_tbl := bw_tg (bw_t4 (List.mem_of_getElem? (i := 56) (by decide +kernel))) rfl
set_option maxRecDepth 20000 in
theorem mw_778 : Cond.instanceMethod yX5_here ∈ bw_tbl := bw_tg (bw_t4 (List.mem_of_getElem? (i := 58) (by decide +kernel))) rfl
set_option maxRecDepth 20000 in
theorem mw_779 : Cond.code yX5_here cX5_here 1 (some FieldType.int) ∈ bw_tbl := bw_tg (bw_t4 (List.mem_of_getElem? (i := 59) rfl)) rfl
set_option maxRecDepth 20000 in
theorem mw_780 : Cond.methodLink "BlowerBreathModel" 122 yX5_isFigure ∈ bw_tbl := bw_tg (bw_t4 (List.mem_of_getElem? (i := 60) (by decide +kernel))) rfl
set_option maxRecDepth 20000 in
theorem mw_782 : Cond.instanceMethod yX5_isFigure ∈ bw_tbl := bw_tg (bw_t4 (List.mem_of_getElem? (i := 62) (by decide +kernel))) rfl
set_option maxRecDepth 20000 in
theorem mw_783 : Cond.code yX5_isFigure cX5_isFigure 3 (some FieldType.boolean) ∈ bw_tbl := bw_tg (bw_t4 (List.mem_of_getElem? (i := 63) rfl)) rfl
set_option maxRecDepth 20000 in
theorem mw_784 : Cond.methodLink "BlowerBreathModel" 142 yX5_readsPipe ∈ bw_tbl := bw_tg (bw_t4 (List.mem_of_getElem? (i := 64) (by decide +kernel))) rfl
set_option maxRecDepth 20000 in
theorem mw_786 : Cond.instanceMethod yX5_readsPipe ∈ bw_tbl := bw_tg (bw_t4 (List.mem_of_getElem? (i := 66) (by decide +kernel))) rfl
set_option maxRecDepth 20000 in
theorem mw_787 : Cond.code yX5_readsPipe cX5_readsPipe 2 (some FieldType.boolean) ∈ bw_tbl := bw_tg (bw_t4 (List.mem_of_getElem? (i := 67) rfl)) rfl
set_option maxRecDepth 20000 in
theorem mw_788 : Cond.methodLink "BlowerBreathModel" 132 yX5_kindOf ∈ bw_tbl := bw_tg (bw_t4 (List.mem_of_getElem? (i := 68) (by decide +kernel))) rfl
set_option maxRecDepth 20000 in
theorem mw_789 : Cond.static yX5_kindOf ∈ bw_tbl := bw_tg (bw_t4 (List.mem_of_getElem? (i := 69) (by decide +kernel))) rfl
set_option maxRecDepth 20000 in
theorem mw_790 : Cond.code yX5_kindOf cX5_kindOf 1 (some FieldType.int) ∈ bw_tbl := bw_tg (bw_t4 (List.mem_of_getElem? (i := 70) rfl)) rfl
set_option maxRecDepth 20000 in
theorem mw_791 : Cond.methodLink "BlowerBreathLaw" 56 yX5_town ∈ bw_tbl := bw_tg (bw_t4 (List.mem_of_getElem? (i := 71) (by decide +kernel))) rfl
set_option maxRecDepth 20000 in
theorem mw_792 : Cond.instanceMethod yX5_town ∈ bw_tbl := bw_tg (bw_t4 (List.mem_of_getElem? (i := 72) (by decide +kernel))) rfl
set_option maxRecDepth 20000 in
theorem mw_793 : Cond.selects "BlowerBreathModel" yX5_town yX5_town ∈ bw_tbl := bw_tg (bw_t4 (List.mem_of_getElem? (i := 73) (by decide +kernel))) rfl
set_option maxRecDepth 20000 in
theorem mw_794 : Cond.code yX5_town cX5_town 3 (some FieldType.int) ∈ bw_tbl := bw_tg (bw_t4 (List.mem_of_getElem? (i := 74) rfl)) rfl
set_option maxRecDepth 20000 in
theorem mw_795 : Cond.methodLink "BlowerBreathLaw" 60 yX5_pipe ∈ bw_tbl := bw_tg (bw_t4 (List.mem_of_getElem? (i := 75) (by decide +kernel))) rfl
set_option maxRecDepth 20000 in
theorem mw_796 : Cond.instanceMethod yX5_pipe ∈ bw_tbl := bw_tg (bw_t4 (List.mem_of_getElem? (i := 76) (by decide +kernel))) rfl
set_option maxRecDepth 20000 in
theorem mw_797 : Cond.selects "BlowerBreathModel" yX5_pipe yX5_pipe ∈ bw_tbl := bw_tg (bw_t4 (List.mem_of_getElem? (i := 77) (by decide +kernel))) rfl
set_option maxRecDepth 20000 in
theorem mw_798 : Cond.code yX5_pipe cX5_pipe 3 (some FieldType.int) ∈ bw_tbl := bw_tg (bw_t4 (List.mem_of_getElem? (i := 78) rfl)) rfl
set_option maxRecDepth 20000 in
theorem mw_799 : Cond.methodLink "BlowerBreathModel" 176 yX5_isPipe ∈ bw_tbl := bw_tg (bw_t4 (List.mem_of_getElem? (i := 79) (by decide +kernel))) rfl
set_option maxRecDepth 20000 in
theorem mw_801 : Cond.instanceMethod yX5_isPipe ∈ bw_tbl := bw_tg (bw_t4 (List.mem_of_getElem? (i := 81) (by decide +kernel))) rfl
set_option maxRecDepth 20000 in
theorem mw_802 : Cond.code yX5_isPipe cX5_isPipe 2 (some FieldType.boolean) ∈ bw_tbl := bw_tg (bw_t4 (List.mem_of_getElem? (i := 82) rfl)) rfl
set_option maxRecDepth 20000 in
theorem mw_803 : Cond.constantLong "BlowerBreathModel" 179 7 ∈ bw_tbl := bw_tg (bw_t4 (List.mem_of_getElem? (i := 83) (by decide +kernel))) rfl
set_option maxRecDepth 20000 in
theorem mw_804 : Cond.methodLink "BlowerBreathModel" 158 yX5_wantsOn ∈ bw_tbl := bw_tg (bw_t4 (List.mem_of_getElem? (i := 84) (by decide +kernel))) rfl
set_option maxRecDepth 20000 in
theorem mw_806 : Cond.instanceMethod yX5_wantsOn ∈ bw_tbl := bw_tg (bw_t4 (List.mem_of_getElem? (i := 86) (by decide +kernel))) rfl
set_option maxRecDepth 20000 in
theorem mw_807 : Cond.code yX5_wantsOn cX5_wantsOn 3 (some FieldType.int) ∈ bw_tbl := bw_tg (bw_t4 (List.mem_of_getElem? (i := 87) rfl)) rfl
set_option maxRecDepth 20000 in
theorem mw_808 : Cond.methodLink "BlowerBreathModel" 151 yX5_wantsBy ∈ bw_tbl := bw_tg (bw_t4 (List.mem_of_getElem? (i := 88) (by decide +kernel))) rfl
set_option maxRecDepth 20000 in
theorem mw_809 : Cond.static yX5_wantsBy ∈ bw_tbl := bw_tg (bw_t4 (List.mem_of_getElem? (i := 89) (by decide +kernel))) rfl
set_option maxRecDepth 20000 in
theorem mw_810 : Cond.code yX5_wantsBy cX5_wantsBy 3 (some FieldType.int) ∈ bw_tbl := bw_tg (bw_t4 (List.mem_of_getElem? (i := 90) rfl)) rfl
set_option maxRecDepth 20000 in
theorem mw_811 : Cond.methodLink "BlowerBreathModel" 169 yX5_isCutOff ∈ bw_tbl := bw_tg (bw_t4 (List.mem_of_getElem? (i := 91) (by decide +kernel))) rfl
set_option maxRecDepth 20000 in
theorem mw_813 : Cond.instanceMethod yX5_isCutOff ∈ bw_tbl := bw_tg (bw_t4 (List.mem_of_getElem? (i := 93) (by decide +kernel))) rfl
set_option maxRecDepth 20000 in
theorem mw_814 : Cond.code yX5_isCutOff cX5_isCutOff 5 (some FieldType.boolean) ∈ bw_tbl := bw_tg (bw_t4 (List.mem_of_getElem? (i := 94) rfl)) rfl
set_option maxRecDepth 20000 in
theorem mw_815 : Cond.methodLink "BlowerBreathModel" 155 yX5_has ∈ bw_tbl := bw_tg (bw_t4 (List.mem_of_getElem? (i := 95) (by decide +kernel))) rfl
set_option maxRecDepth 20000 in
theorem mw_816 : Cond.static yX5_has ∈ bw_tbl := bw_tg (bw_t4 (List.mem_of_getElem? (i := 96) (by decide +kernel))) rfl
set_option maxRecDepth 20000 in
theorem mw_817 : Cond.code yX5_has cX5_has 2 (some FieldType.boolean) ∈ bw_tbl := bw_tg (bw_t4 (List.mem_of_getElem? (i := 97) rfl)) rfl
set_option maxRecDepth 20000 in
theorem mw_818 : Cond.methodLink "BlowerBreathLaw" 64 yX5_mark ∈ bw_tbl := bw_tg (bw_t4 (List.mem_of_getElem? (i := 98) (by decide +kernel))) rfl
set_option maxRecDepth 20000 in
theorem mw_819 : Cond.instanceMethod yX5_mark ∈ bw_tbl := bw_tg (bw_t4 (List.mem_of_getElem? (i := 99) (by decide +kernel))) rfl
set_option maxRecDepth 20000 in
theorem mw_820 : Cond.selects "BlowerBreathModel" yX5_mark yX5_mark ∈ bw_tbl := bw_tg (bw_t4 (List.mem_of_getElem? (i := 100) (by decide +kernel))) rfl
set_option maxRecDepth 20000 in
theorem mw_821 : Cond.code yX5_mark cX5_mark 5 (some FieldType.int) ∈ bw_tbl := bw_tg (bw_t4 (List.mem_of_getElem? (i := 101) rfl)) rfl
set_option maxRecDepth 20000 in
theorem mw_822 : Cond.methodLink "BlowerBreathModel" 162 yX5_isOf ∈ bw_tbl := bw_tg (bw_t4 (List.mem_of_getElem? (i := 102) (by decide +kernel))) rfl
set_option maxRecDepth 20000 in
theorem mw_823 : Cond.static yX5_isOf ∈ bw_tbl := bw_tg (bw_t4 (List.mem_of_getElem? (i := 103) (by decide +kernel))) rfl
set_option maxRecDepth 20000 in
theorem mw_824 : Cond.code yX5_isOf cX5_isOf 2 (some FieldType.boolean) ∈ bw_tbl := bw_tg (bw_t4 (List.mem_of_getElem? (i := 104) rfl)) rfl
set_option maxRecDepth 20000 in
theorem mw_825 : Cond.methodLink "BlowerBreathLaw" 69 yX5_hour ∈ bw_tbl := bw_tg (bw_t4 (List.mem_of_getElem? (i := 105) (by decide +kernel))) rfl
set_option maxRecDepth 20000 in
theorem mw_826 : Cond.instanceMethod yX5_hour ∈ bw_tbl := bw_tg (bw_t4 (List.mem_of_getElem? (i := 106) (by decide +kernel))) rfl
set_option maxRecDepth 20000 in
theorem mw_827 : Cond.selects "BlowerBreathModel" yX5_hour yX5_hour ∈ bw_tbl := bw_tg (bw_t4 (List.mem_of_getElem? (i := 107) (by decide +kernel))) rfl
set_option maxRecDepth 20000 in
theorem mw_828 : Cond.code yX5_hour cX5_hour 2 (some FieldType.int) ∈ bw_tbl := bw_tg (bw_t4 (List.mem_of_getElem? (i := 108) rfl)) rfl
set_option maxRecDepth 20000 in
theorem mw_829 : Cond.methodLink "BlowerBreathModel" 185 yX5_refuses ∈ bw_tbl := bw_tg (bw_t4 (List.mem_of_getElem? (i := 109) (by decide +kernel))) rfl
set_option maxRecDepth 20000 in
theorem mw_831 : Cond.instanceMethod yX5_refuses ∈ bw_tbl := bw_tg (bw_t4 (List.mem_of_getElem? (i := 111) (by decide +kernel))) rfl
set_option maxRecDepth 20000 in
theorem mw_832 : Cond.code yX5_refuses cX5_refuses 2 (some FieldType.int) ∈ bw_tbl := bw_tg (bw_t4 (List.mem_of_getElem? (i := 112) rfl)) rfl
set_option maxRecDepth 20000 in
theorem mw_833 : Cond.methodLink "BlowerBreathModel" 188 yX5_remember ∈ bw_tbl := bw_tg (bw_t4 (List.mem_of_getElem? (i := 113) (by decide +kernel))) rfl
set_option maxRecDepth 20000 in
theorem mw_835 : Cond.instanceMethod yX5_remember ∈ bw_tbl := bw_tg (bw_t4 (List.mem_of_getElem? (i := 115) (by decide +kernel))) rfl
set_option maxRecDepth 20000 in
theorem mw_836 : Cond.code yX5_remember cX5_remember 1 none ∈ bw_tbl := bw_tg (bw_t4 (List.mem_of_getElem? (i := 116) rfl)) rfl
set_option maxRecDepth 20000 in
theorem mw_837 : Cond.methodLink "BlowerBreathModel" 181 yX5_copies ∈ bw_tbl := bw_tg (bw_t4 (List.mem_of_getElem? (i := 117) (by decide +kernel))) rfl
set_option maxRecDepth 20000 in
theorem mw_838 : Cond.static yX5_copies ∈ bw_tbl := bw_tg (bw_t4 (List.mem_of_getElem? (i := 118) (by decide +kernel))) rfl
set_option maxRecDepth 20000 in
theorem mw_839 : Cond.code yX5_copies cX5_copies 6 none ∈ bw_tbl := bw_tg (bw_t4 (List.mem_of_getElem? (i := 119) rfl)) rfl
set_option maxRecDepth 20000 in
theorem mw_840 : Cond.methodLink "BlowerBreathModel" 191 yX5_goes ∈ bw_tbl := bw_tg (bw_t4 (List.mem_of_getElem? (i := 120) (by decide +kernel))) rfl
set_option maxRecDepth 20000 in
theorem mw_842 : Cond.instanceMethod yX5_goes ∈ bw_tbl := bw_tg (bw_t4 (List.mem_of_getElem? (i := 122) (by decide +kernel))) rfl
set_option maxRecDepth 20000 in
theorem mw_843 : Cond.code yX5_goes cX5_goes 4 (some FieldType.int) ∈ bw_tbl := bw_tg (bw_t4 (List.mem_of_getElem? (i := 123) rfl)) rfl
set_option maxRecDepth 20000 in
theorem mw_844 : Cond.methodLink "BlowerBreathModel" 165 yX5_lesser ∈ bw_tbl := bw_tg (bw_t4 (List.mem_of_getElem? (i := 124) (by decide +kernel))) rfl
set_option maxRecDepth 20000 in
theorem mw_845 : Cond.static yX5_lesser ∈ bw_tbl := bw_tg (bw_t4 (List.mem_of_getElem? (i := 125) (by decide +kernel))) rfl
set_option maxRecDepth 20000 in
theorem mw_846 : Cond.code yX5_lesser cX5_lesser 2 (some FieldType.int) ∈ bw_tbl := bw_tg (bw_t4 (List.mem_of_getElem? (i := 126) rfl)) rfl
set_option maxRecDepth 20000 in
theorem mw_847 : Cond.methodLink "BlowerBreathModel" 173 yX5_takes ∈ bw_tbl := bw_tg (bw_t4 (List.mem_of_getElem? (i := 127) (by decide +kernel))) rfl
set_option maxRecDepth 20000 in
theorem mw_849 : Cond.instanceMethod yX5_takes ∈ bw_tbl := bw_tg (bw_t4 (List.mem_of_getElem? (i := 129) (by decide +kernel))) rfl
set_option maxRecDepth 20000 in
theorem mw_850 : Cond.code yX5_takes cX5_takes 4 (some FieldType.boolean) ∈ bw_tbl := bw_tg (bw_t4 (List.mem_of_getElem? (i := 130) rfl)) rfl
set_option maxRecDepth 20000 in
theorem mw_851 : Cond.methodLink "BlowerBreathLaw" 73 yX5_pump ∈ bw_tbl := bw_tg (bw_t4 (List.mem_of_getElem? (i := 131) (by decide +kernel))) rfl
set_option maxRecDepth 20000 in
theorem mw_852 : Cond.instanceMethod yX5_pump ∈ bw_tbl := bw_tg (bw_t4 (List.mem_of_getElem? (i := 132) (by decide +kernel))) rfl
set_option maxRecDepth 20000 in
theorem mw_853 : Cond.selects "BlowerBreathModel" yX5_pump yX5_pump ∈ bw_tbl := bw_tg (bw_t4 (List.mem_of_getElem? (i := 133) (by decide +kernel))) rfl
set_option maxRecDepth 20000 in
theorem mw_854 : Cond.code yX5_pump cX5_pump 2 (some FieldType.int) ∈ bw_tbl := bw_tg (bw_t4 (List.mem_of_getElem? (i := 134) rfl)) rfl
set_option maxRecDepth 20000 in
theorem mw_855 : Cond.constantLong "BlowerBreathModel" 195 (-9) ∈ bw_tbl := bw_tg (bw_t4 (List.mem_of_getElem? (i := 135) (by decide +kernel))) rfl
set_option maxRecDepth 20000 in
theorem mw_856 : Cond.constantLong "BlowerBreathModel" 197 9 ∈ bw_tbl := bw_tg (bw_t4 (List.mem_of_getElem? (i := 136) (by decide +kernel))) rfl
set_option maxRecDepth 20000 in
theorem mw_857 : Cond.constantLong "BlowerBreathModel" 199 60 ∈ bw_tbl := bw_tg (bw_t4 (List.mem_of_getElem? (i := 137) (by decide +kernel))) rfl
set_option maxRecDepth 20000 in
theorem mw_858 : Cond.methodLink "BlowerBreathLaw" 77 yX5_cut ∈ bw_tbl := bw_tg (bw_t4 (List.mem_of_getElem? (i := 138) (by decide +kernel))) rfl
set_option maxRecDepth 20000 in
theorem mw_859 : Cond.instanceMethod yX5_cut ∈ bw_tbl := bw_tg (bw_t4 (List.mem_of_getElem? (i := 139) (by decide +kernel))) rfl
set_option maxRecDepth 20000 in
theorem mw_860 : Cond.selects "BlowerBreathModel" yX5_cut yX5_cut ∈ bw_tbl := bw_tg (bw_t4 (List.mem_of_getElem? (i := 140) (by decide +kernel))) rfl
set_option maxRecDepth 20000 in
theorem mw_861 : Cond.code yX5_cut cX5_cut 2 (some FieldType.int) ∈ bw_tbl := bw_tg (bw_t4 (List.mem_of_getElem? (i := 141) rfl)) rfl
set_option maxRecDepth 20000 in
theorem mw_862 : Cond.methodLink "BlowerBreathModel" 201 yX5_turns ∈ bw_tbl := bw_tg (bw_t4 (List.mem_of_getElem? (i := 142) (by decide +kernel))) rfl
set_option maxRecDepth 20000 in
theorem mw_864 : Cond.instanceMethod yX5_turns ∈ bw_tbl := bw_tg (bw_t4 (List.mem_of_getElem? (i := 144) (by decide +kernel))) rfl
set_option maxRecDepth 20000 in
theorem mw_865 : Cond.code yX5_turns cX5_turns 3 (some FieldType.int) ∈ bw_tbl := bw_tg (bw_t4 (List.mem_of_getElem? (i := 145) rfl)) rfl
set_option maxRecDepth 20000 in
theorem mw_866 : Cond.methodLink "BlowerBreathLaw" 81 yX5_leak ∈ bw_tbl := bw_tg (bw_t4 (List.mem_of_getElem? (i := 146) (by decide +kernel))) rfl
set_option maxRecDepth 20000 in
theorem mw_867 : Cond.instanceMethod yX5_leak ∈ bw_tbl := bw_tg (bw_t4 (List.mem_of_getElem? (i := 147) (by decide +kernel))) rfl
set_option maxRecDepth 20000 in
theorem mw_868 : Cond.selects "BlowerBreathModel" yX5_leak yX5_leak ∈ bw_tbl := bw_tg (bw_t4 (List.mem_of_getElem? (i := 148) (by decide +kernel))) rfl
set_option maxRecDepth 20000 in
theorem mw_869 : Cond.code yX5_leak cX5_leak 2 (some FieldType.int) ∈ bw_tbl := bw_tg (bw_t4 (List.mem_of_getElem? (i := 149) rfl)) rfl
set_option maxRecDepth 20000 in
theorem mw_870 : Cond.methodLink "BlowerBreathLaw" 85 yX5_stroke ∈ bw_tbl := bw_tg (bw_t4 (List.mem_of_getElem? (i := 150) (by decide +kernel))) rfl
set_option maxRecDepth 20000 in
theorem mw_871 : Cond.instanceMethod yX5_stroke ∈ bw_tbl := bw_tg (bw_t4 (List.mem_of_getElem? (i := 151) (by decide +kernel))) rfl
set_option maxRecDepth 20000 in
theorem mw_872 : Cond.selects "BlowerBreathModel" yX5_stroke yX5_stroke ∈ bw_tbl := bw_tg (bw_t4 (List.mem_of_getElem? (i := 152) (by decide +kernel))) rfl
set_option maxRecDepth 20000 in
theorem mw_873 : Cond.code yX5_stroke cX5_stroke 3 (some FieldType.int) ∈ bw_tbl := bw_tg (bw_t4 (List.mem_of_getElem? (i := 153) rfl)) rfl
set_option maxRecDepth 20000 in
theorem mw_874 : Cond.methodLink "BlowerBreathLaw" 89 yX5_undo ∈ bw_tbl := bw_tg (bw_t4 (List.mem_of_getElem? (i := 154) (by decide +kernel))) rfl
set_option maxRecDepth 20000 in
theorem mw_875 : Cond.instanceMethod yX5_undo ∈ bw_tbl := bw_tg (bw_t4 (List.mem_of_getElem? (i := 155) (by decide +kernel))) rfl
set_option maxRecDepth 20000 in
theorem mw_876 : Cond.selects "BlowerBreathModel" yX5_undo yX5_undo ∈ bw_tbl := bw_tg (bw_t4 (List.mem_of_getElem? (i := 156) (by decide +kernel))) rfl
set_option maxRecDepth 20000 in
theorem mw_877 : Cond.code yX5_undo cX5_undo 3 (some FieldType.int) ∈ bw_tbl := bw_tg (bw_t4 (List.mem_of_getElem? (i := 157) rfl)) rfl
set_option maxRecDepth 20000 in
theorem mw_878 : Cond.methodLink "BlowerBreathLaw" 93 yX5_keep ∈ bw_tbl := bw_tg (bw_t4 (List.mem_of_getElem? (i := 158) (by decide +kernel))) rfl
set_option maxRecDepth 20000 in
theorem mw_879 : Cond.instanceMethod yX5_keep ∈ bw_tbl := bw_tg (bw_t4 (List.mem_of_getElem? (i := 159) (by decide +kernel))) rfl
set_option maxRecDepth 20000 in
theorem mw_880 : Cond.selects "BlowerBreathModel" yX5_keep yX5_keep ∈ bw_tbl := bw_tg (bw_t4 (List.mem_of_getElem? (i := 160) (by decide +kernel))) rfl
set_option maxRecDepth 20000 in
theorem mw_881 : Cond.code yX5_keep cX5_keep 2 (some FieldType.int) ∈ bw_tbl := bw_tg (bw_t4 (List.mem_of_getElem? (i := 161) rfl)) rfl
set_option maxRecDepth 20000 in
theorem mw_882 : Cond.constantLong "BlowerBreathModel" 204 2 ∈ bw_tbl := bw_tg (bw_t4 (List.mem_of_getElem? (i := 162) (by decide +kernel))) rfl
set_option maxRecDepth 20000 in
theorem mw_883 : Cond.methodLink "BlowerBreathLaw" 97 yX5_on ∈ bw_tbl := bw_tg (bw_t4 (List.mem_of_getElem? (i := 163) (by decide +kernel))) rfl
set_option maxRecDepth 20000 in
theorem mw_884 : Cond.instanceMethod yX5_on ∈ bw_tbl := bw_tg (bw_t4 (List.mem_of_getElem? (i := 164) (by decide +kernel))) rfl
set_option maxRecDepth 20000 in
theorem mw_885 : Cond.selects "BlowerBreathModel" yX5_on yX5_on ∈ bw_tbl := bw_tg (bw_t4 (List.mem_of_getElem? (i := 165) (by decide +kernel))) rfl
set_option maxRecDepth 20000 in
theorem mw_886 : Cond.code yX5_on cX5_on 2 (some FieldType.int) ∈ bw_tbl := bw_tg (bw_t4 (List.mem_of_getElem? (i := 166) rfl)) rfl
set_option maxRecDepth 20000 in
theorem mw_887 : Cond.methodLink "BlowerBreathLaw" 101 yX5_wants ∈ bw_tbl := bw_tg (bw_t4 (List.mem_of_getElem? (i := 167) (by decide +kernel))) rfl
set_option maxRecDepth 20000 in
theorem mw_888 : Cond.instanceMethod yX5_wants ∈ bw_tbl := bw_tg (bw_t4 (List.mem_of_getElem? (i := 168) (by decide +kernel))) rfl
set_option maxRecDepth 20000 in
theorem mw_889 : Cond.selects "BlowerBreathModel" yX5_wants yX5_wants ∈ bw_tbl := bw_tg (bw_t4 (List.mem_of_getElem? (i := 169) (by decide +kernel))) rfl
set_option maxRecDepth 20000 in
theorem mw_890 : Cond.code yX5_wants cX5_wants 4 (some FieldType.int) ∈ bw_tbl := bw_tg (bw_t4 (List.mem_of_getElem? (i := 170) rfl)) rfl
set_option maxRecDepth 20000 in
theorem mw_891 : Cond.constantLong "BlowerBreathModel" 206 99 ∈ bw_tbl := bw_tg (bw_t4 (List.mem_of_getElem? (i := 171) (by decide +kernel))) rfl
set_option maxRecDepth 20000 in
theorem mw_892 : Cond.methodLink "BlowerBreathLaw" 105 yX5_air ∈ bw_tbl := bw_tg (bw_t4 (List.mem_of_getElem? (i := 172) (by decide +kernel))) rfl
set_option maxRecDepth 20000 in
theorem mw_893 : Cond.instanceMethod yX5_air ∈ bw_tbl := bw_tg (bw_t4 (List.mem_of_getElem? (i := 173) (by decide +kernel))) rfl
set_option maxRecDepth 20000 in
theorem mw_894 : Cond.selects "BlowerBreathModel" yX5_air yX5_air ∈ bw_tbl := bw_tg (bw_t4 (List.mem_of_getElem? (i := 174) (by decide +kernel))) rfl
set_option maxRecDepth 20000 in
theorem mw_895 : Cond.code yX5_air cX5_air 4 (some FieldType.int) ∈ bw_tbl := bw_tg (bw_t4 (List.mem_of_getElem? (i := 175) rfl)) rfl
set_option maxRecDepth 20000 in
theorem mw_896 : Cond.constantLong "BlowerBreathModel" 208 40 ∈ bw_tbl := bw_tg (bw_t4 (List.mem_of_getElem? (i := 176) (by decide +kernel))) rfl
set_option maxRecDepth 20000 in
theorem mw_897 : Cond.methodLink "BlowerBreathModel" 210 yX5_layAside ∈ bw_tbl := bw_tg (bw_t4 (List.mem_of_getElem? (i := 177) (by decide +kernel))) rfl
set_option maxRecDepth 20000 in
theorem mw_899 : Cond.instanceMethod yX5_layAside ∈ bw_tbl := bw_tg (bw_t4 (List.mem_of_getElem? (i := 179) (by decide +kernel))) rfl
set_option maxRecDepth 20000 in
theorem mw_900 : Cond.code yX5_layAside cX5_layAside 1 none ∈ bw_tbl := bw_tg (bw_t4 (List.mem_of_getElem? (i := 180) rfl)) rfl
set_option maxRecDepth 20000 in
theorem mw_901 : Cond.methodLink "BlowerBreathModel" 213 yX5_answer ∈ bw_tbl := bw_tg (bw_t4 (List.mem_of_getElem? (i := 181) (by decide +kernel))) rfl
set_option maxRecDepth 20000 in
theorem mw_903 : Cond.instanceMethod yX5_answer ∈ bw_tbl := bw_tg (bw_t4 (List.mem_of_getElem? (i := 183) (by decide +kernel))) rfl
set_option maxRecDepth 20000 in
theorem mw_904 : Cond.code yX5_answer cX5_answer 3 (some FieldType.int) ∈ bw_tbl := bw_tg (bw_t4 (List.mem_of_getElem? (i := 184) rfl)) rfl
set_option maxRecDepth 20000 in
theorem mw_905 : Cond.methodLink "BlowerBreathLaw" 109 yX5_says ∈ bw_tbl := bw_tg (bw_t4 (List.mem_of_getElem? (i := 185) (by decide +kernel))) rfl
set_option maxRecDepth 20000 in
theorem mw_906 : Cond.instanceMethod yX5_says ∈ bw_tbl := bw_tg (bw_t4 (List.mem_of_getElem? (i := 186) (by decide +kernel))) rfl
set_option maxRecDepth 20000 in
theorem mw_907 : Cond.selects "BlowerBreathModel" yX5_says yX5_says ∈ bw_tbl := bw_tg (bw_t4 (List.mem_of_getElem? (i := 187) (by decide +kernel))) rfl
set_option maxRecDepth 20000 in
theorem mw_908 : Cond.code yX5_says cX5_says 5 (some FieldType.int) ∈ bw_tbl := bw_tg (bw_t4 (List.mem_of_getElem? (i := 188) rfl)) rfl
set_option maxRecDepth 20000 in
theorem mw_909 : Cond.methodLink "BlowerBreathLaw" 113 yX5_first ∈ bw_tbl := bw_tg (bw_t4 (List.mem_of_getElem? (i := 189) (by decide +kernel))) rfl
set_option maxRecDepth 20000 in
theorem mw_910 : Cond.instanceMethod yX5_first ∈ bw_tbl := bw_tg (bw_t4 (List.mem_of_getElem? (i := 190) (by decide +kernel))) rfl
set_option maxRecDepth 20000 in
theorem mw_911 : Cond.selects "BlowerBreathModel" yX5_first yX5_first ∈ bw_tbl := bw_tg (bw_t4 (List.mem_of_getElem? (i := 191) (by decide +kernel))) rfl
set_option maxRecDepth 20000 in
theorem mw_912 : Cond.code yX5_first cX5_first 3 (some FieldType.int) ∈ bw_tbl := bw_tg (bw_t4 (List.mem_of_getElem? (i := 192) rfl)) rfl
set_option maxRecDepth 20000 in
theorem mw_913 : Cond.methodLink "BlowerBreathLaw" 117 yX5_hush ∈ bw_tbl := bw_tg (bw_t4 (List.mem_of_getElem? (i := 193) (by decide +kernel))) rfl
set_option maxRecDepth 20000 in
theorem mw_914 : Cond.instanceMethod yX5_hush ∈ bw_tbl := bw_tg (bw_t4 (List.mem_of_getElem? (i := 194) (by decide +kernel))) rfl
set_option maxRecDepth 20000 in
theorem mw_915 : Cond.selects "BlowerBreathModel" yX5_hush yX5_hush ∈ bw_tbl := bw_tg (bw_t4 (List.mem_of_getElem? (i := 195) (by decide +kernel))) rfl
set_option maxRecDepth 20000 in
theorem mw_916 : Cond.code yX5_hush cX5_hush 4 (some FieldType.int) ∈ bw_tbl := bw_tg (bw_t4 (List.mem_of_getElem? (i := 196) rfl)) rfl
set_option maxRecDepth 20000 in
theorem mw_917 : Cond.methodLink "BlowerBreathModel" 216 yX5_bits ∈ bw_tbl := bw_tg (bw_t4 (List.mem_of_getElem? (i := 197) (by decide +kernel))) rfl
set_option maxRecDepth 20000 in
theorem mw_918 : Cond.static yX5_bits ∈ bw_tbl := bw_tg (bw_t4 (List.mem_of_getElem? (i := 198) (by decide +kernel))) rfl
set_option maxRecDepth 20000 in
theorem mw_919 : Cond.code yX5_bits cX5_bits 3 (some FieldType.int) ∈ bw_tbl := bw_tg (bw_t4 (List.mem_of_getElem? (i := 199) rfl)) rfl
set_option maxRecDepth 20000 in
theorem mw_920 : Cond.methodLink "BlowerBreathLaw" 121 yX5_least ∈ bw_tbl := bw_tg (bw_t4 (List.mem_of_getElem? (i := 200) (by decide +kernel))) rfl
set_option maxRecDepth 20000 in
theorem mw_921 : Cond.instanceMethod yX5_least ∈ bw_tbl := bw_tg (bw_t4 (List.mem_of_getElem? (i := 201) (by decide +kernel))) rfl
set_option maxRecDepth 20000 in
theorem mw_922 : Cond.selects "BlowerBreathModel" yX5_least yX5_least ∈ bw_tbl := bw_tg (bw_t4 (List.mem_of_getElem? (i := 202) (by decide +kernel))) rfl
set_option maxRecDepth 20000 in
theorem mw_923 : Cond.code yX5_least cX5_least 3 (some FieldType.int) ∈ bw_tbl := bw_tg (bw_t4 (List.mem_of_getElem? (i := 203) rfl)) rfl
set_option maxRecDepth 20000 in
theorem mw_924 : Cond.methodLink "BlowerBreathLaw" 125 yX5_hard ∈ bw_tbl := bw_tg (bw_t4 (List.mem_of_getElem? (i := 204) (by decide +kernel))) rfl
set_option maxRecDepth 20000 in
theorem mw_925 : Cond.instanceMethod yX5_hard ∈ bw_tbl := bw_tg (bw_t4 (List.mem_of_getElem? (i := 205) (by decide +kernel))) rfl
set_option maxRecDepth 20000 in
theorem mw_926 : Cond.selects "BlowerBreathModel" yX5_hard yX5_hard ∈ bw_tbl := bw_tg (bw_t4 (List.mem_of_getElem? (i := 206) (by decide +kernel))) rfl
set_option maxRecDepth 20000 in
theorem mw_927 : Cond.code yX5_hard cX5_hard 6 (some FieldType.int) ∈ bw_tbl := bw_tg (bw_t4 (List.mem_of_getElem? (i := 207) rfl)) rfl
set_option maxRecDepth 20000 in
theorem mw_928 : Cond.methodLink "BlowerBreathModel" 219 yX5_arePipes ∈ bw_tbl := bw_tg (bw_t4 (List.mem_of_getElem? (i := 208) (by decide +kernel))) rfl
set_option maxRecDepth 20000 in
theorem mw_930 : Cond.instanceMethod yX5_arePipes ∈ bw_tbl := bw_tg (bw_t4 (List.mem_of_getElem? (i := 210) (by decide +kernel))) rfl
set_option maxRecDepth 20000 in
theorem mw_931 : Cond.code yX5_arePipes cX5_arePipes 2 (some FieldType.boolean) ∈ bw_tbl := bw_tg (bw_t4 (List.mem_of_getElem? (i := 211) rfl)) rfl
set_option maxRecDepth 20000 in
theorem mw_932 : Cond.constantLong "BlowerBreathModel" 222 20 ∈ bw_tbl := bw_tg (bw_t4 (List.mem_of_getElem? (i := 212) (by decide +kernel))) rfl
set_option maxRecDepth 20000 in
theorem mw_933 : Cond.methodLink "BlowerBreathLaw" 129 yX5_leaks ∈ bw_tbl := bw_tg (bw_t4 (List.mem_of_getElem? (i := 213) (by decide +kernel))) rfl
set_option maxRecDepth 20000 in
theorem mw_934 : Cond.instanceMethod yX5_leaks ∈ bw_tbl := bw_tg (bw_t4 (List.mem_of_getElem? (i := 214) (by decide +kernel))) rfl
set_option maxRecDepth 20000 in
theorem mw_935 : Cond.selects "BlowerBreathModel" yX5_leaks yX5_leaks ∈ bw_tbl := bw_tg (bw_t4 (List.mem_of_getElem? (i := 215) (by decide +kernel))) rfl
set_option maxRecDepth 20000 in
theorem mw_936 : Cond.code yX5_leaks cX5_leaks 6 (some FieldType.int) ∈ bw_tbl := bw_tg (bw_t4 (List.mem_of_getElem? (i := 216) rfl)) rfl
set_option maxRecDepth 20000 in
theorem mw_937 : Cond.methodLink "BlowerBreathModel" 235 yX5_refusesAll ∈ bw_tbl := bw_tg (bw_t4 (List.mem_of_getElem? (i := 217) (by decide +kernel))) rfl
set_option maxRecDepth 20000 in
theorem mw_939 : Cond.instanceMethod yX5_refusesAll ∈ bw_tbl := bw_tg (bw_t4 (List.mem_of_getElem? (i := 219) (by decide +kernel))) rfl
set_option maxRecDepth 20000 in
theorem mw_940 : Cond.code yX5_refusesAll cX5_refusesAll 2 (some FieldType.int) ∈ bw_tbl := bw_tg (bw_t4 (List.mem_of_getElem? (i := 220) rfl)) rfl
set_option maxRecDepth 20000 in
theorem mw_941 : Cond.methodLink "BlowerBreathModel" 226 yX5_refusesRow ∈ bw_tbl := bw_tg (bw_t4 (List.mem_of_getElem? (i := 221) (by decide +kernel))) rfl
set_option maxRecDepth 20000 in
theorem mw_943 : Cond.instanceMethod yX5_refusesRow ∈ bw_tbl := bw_tg (bw_t4 (List.mem_of_getElem? (i := 223) (by decide +kernel))) rfl
set_option maxRecDepth 20000 in
theorem mw_944 : Cond.code yX5_refusesRow cX5_refusesRow 3 (some FieldType.int) ∈ bw_tbl := bw_tg (bw_t4 (List.mem_of_getElem? (i := 224) rfl)) rfl
set_option maxRecDepth 20000 in
theorem mw_945 : Cond.constantLong "BlowerBreathModel" 224 10 ∈ bw_tbl := bw_tg (bw_t4 (List.mem_of_getElem? (i := 225) (by decide +kernel))) rfl
set_option maxRecDepth 20000 in
theorem mw_946 : Cond.methodLink "BlowerBreathModel" 238 yX5_mayLeak ∈ bw_tbl := bw_tg (bw_t4 (List.mem_of_getElem? (i := 226) (by decide +kernel))) rfl
set_option maxRecDepth 20000 in
theorem mw_948 : Cond.instanceMethod yX5_mayLeak ∈ bw_tbl := bw_tg (bw_t4 (List.mem_of_getElem? (i := 228) (by decide +kernel))) rfl
set_option maxRecDepth 20000 in
theorem mw_949 : Cond.code yX5_mayLeak cX5_mayLeak 3 (some FieldType.boolean) ∈ bw_tbl := bw_tg (bw_t4 (List.mem_of_getElem? (i := 229) rfl)) rfl
set_option maxRecDepth 20000 in
theorem mw_950 : Cond.methodLink "BlowerBreathModel" 229 yX5_goesAs ∈ bw_tbl := bw_tg (bw_t4 (List.mem_of_getElem? (i := 230) (by decide +kernel))) rfl
set_option maxRecDepth 20000 in
theorem mw_952 : Cond.instanceMethod yX5_goesAs ∈ bw_tbl := bw_tg (bw_t4 (List.mem_of_getElem? (i := 232) (by decide +kernel))) rfl
set_option maxRecDepth 20000 in
theorem mw_953 : Cond.code yX5_goesAs cX5_goesAs 4 (some FieldType.boolean) ∈ bw_tbl := bw_tg (bw_t4 (List.mem_of_getElem? (i := 233) rfl)) rfl
set_option maxRecDepth 20000 in
theorem mw_954 : Cond.methodLink "BlowerBreathModel" 241 yX5_counted ∈ bw_tbl := bw_tg (bw_t4 (List.mem_of_getElem? (i := 234) (by decide +kernel))) rfl
set_option maxRecDepth 20000 in
theorem mw_956 : Cond.instanceMethod yX5_counted ∈ bw_tbl := bw_tg (bw_t4 (List.mem_of_getElem? (i := 236) (by decide +kernel))) rfl
set_option maxRecDepth 20000 in
theorem mw_957 : Cond.code yX5_counted cX5_counted 3 (some FieldType.int) ∈ bw_tbl := bw_tg (bw_t4 (List.mem_of_getElem? (i := 237) rfl)) rfl
set_option maxRecDepth 20000 in
theorem mw_958 : Cond.methodLink "BlowerBreathLaw" 133 yX5_listen ∈ bw_tbl := bw_tg (bw_t4 (List.mem_of_getElem? (i := 238) (by decide +kernel))) rfl
set_option maxRecDepth 20000 in
theorem mw_959 : Cond.instanceMethod yX5_listen ∈ bw_tbl := bw_tg (bw_t4 (List.mem_of_getElem? (i := 239) (by decide +kernel))) rfl
set_option maxRecDepth 20000 in
theorem mw_960 : Cond.selects "BlowerBreathModel" yX5_listen yX5_listen ∈ bw_tbl := bw_tg (bw_t5 (List.mem_of_getElem? (i := 0) (by decide +kernel))) rfl
set_option maxRecDepth 20000 in
theorem mw_961 : Cond.code yX5_listen cX5_listen 8 (some FieldType.int) ∈ bw_tbl := bw_tg (bw_t5 (List.mem_of_getElem? (i := 1) rfl)) rfl
set_option maxRecDepth 20000 in
theorem mw_962 : Cond.constant "BlowerBreathModel" 244 1000000 ∈ bw_tbl := bw_tg (bw_t5 (List.mem_of_getElem? (i := 2) (by decide +kernel))) rfl
set_option maxRecDepth 20000 in
theorem mw_963 : Cond.methodLink "BlowerBreathLaw" 137 yX5_strokes ∈ bw_tbl := bw_tg (bw_t5 (List.mem_of_getElem? (i := 3) (by decide +kernel))) rfl
set_option maxRecDepth 20000 in
theorem mw_964 : Cond.instanceMethod yX5_strokes ∈ bw_tbl := bw_tg (bw_t5 (List.mem_of_getElem? (i := 4) (by decide +kernel))) rfl
set_option maxRecDepth 20000 in
theorem mw_965 : Cond.selects "BlowerBreathModel" yX5_strokes yX5_strokes ∈ bw_tbl := bw_tg (bw_t5 (List.mem_of_getElem? (i := 5) (by decide +kernel))) rfl
set_option maxRecDepth 20000 in
theorem mw_966 : Cond.code yX5_strokes cX5_strokes 5 (some FieldType.int) ∈ bw_tbl := bw_tg (bw_t5 (List.mem_of_getElem? (i := 6) rfl)) rfl
set_option maxRecDepth 20000 in
theorem mw_967 : Cond.methodLink "BlowerBreathLaw" 141 yX5_kinds ∈ bw_tbl := bw_tg (bw_t5 (List.mem_of_getElem? (i := 7) (by decide +kernel))) rfl
set_option maxRecDepth 20000 in
theorem mw_968 : Cond.instanceMethod yX5_kinds ∈ bw_tbl := bw_tg (bw_t5 (List.mem_of_getElem? (i := 8) (by decide +kernel))) rfl
set_option maxRecDepth 20000 in
theorem mw_969 : Cond.selects "BlowerBreathModel" yX5_kinds yX5_kinds ∈ bw_tbl := bw_tg (bw_t5 (List.mem_of_getElem? (i := 9) (by decide +kernel))) rfl
set_option maxRecDepth 20000 in
theorem mw_970 : Cond.code yX5_kinds cX5_kinds 7 (some FieldType.int) ∈ bw_tbl := bw_tg (bw_t5 (List.mem_of_getElem? (i := 10) rfl)) rfl
set_option maxRecDepth 20000 in
theorem mw_971 : Cond.methodLink "BlowerBreathLaw" 145 yX5_sets ∈ bw_tbl := bw_tg (bw_t5 (List.mem_of_getElem? (i := 11) (by decide +kernel))) rfl
set_option maxRecDepth 20000 in
theorem mw_972 : Cond.instanceMethod yX5_sets ∈ bw_tbl := bw_tg (bw_t5 (List.mem_of_getElem? (i := 12) (by decide +kernel))) rfl
set_option maxRecDepth 20000 in
theorem mw_973 : Cond.selects "BlowerBreathModel" yX5_sets yX5_sets ∈ bw_tbl := bw_tg (bw_t5 (List.mem_of_getElem? (i := 13) (by decide +kernel))) rfl
set_option maxRecDepth 20000 in
theorem mw_974 : Cond.code yX5_sets cX5_sets 5 (some FieldType.int) ∈ bw_tbl := bw_tg (bw_t5 (List.mem_of_getElem? (i := 14) rfl)) rfl
set_option maxRecDepth 20000 in
theorem mw_975 : Cond.methodLink "BlowerBreathModel" 245 yX5_wantsOf ∈ bw_tbl := bw_tg (bw_t5 (List.mem_of_getElem? (i := 15) (by decide +kernel))) rfl
set_option maxRecDepth 20000 in
theorem mw_977 : Cond.instanceMethod yX5_wantsOf ∈ bw_tbl := bw_tg (bw_t5 (List.mem_of_getElem? (i := 17) (by decide +kernel))) rfl
set_option maxRecDepth 20000 in
theorem mw_978 : Cond.code yX5_wantsOf cX5_wantsOf 4 (some FieldType.int) ∈ bw_tbl := bw_tg (bw_t5 (List.mem_of_getElem? (i := 18) rfl)) rfl
set_option maxRecDepth 20000 in
theorem mw_979 : Cond.methodLink "BlowerBreathLaw" 149 yX5_sure ∈ bw_tbl := bw_tg (bw_t5 (List.mem_of_getElem? (i := 19) (by decide +kernel))) rfl
set_option maxRecDepth 20000 in
theorem mw_980 : Cond.instanceMethod yX5_sure ∈ bw_tbl := bw_tg (bw_t5 (List.mem_of_getElem? (i := 20) (by decide +kernel))) rfl
set_option maxRecDepth 20000 in
theorem mw_981 : Cond.selects "BlowerBreathModel" yX5_sure yX5_sure ∈ bw_tbl := bw_tg (bw_t5 (List.mem_of_getElem? (i := 21) (by decide +kernel))) rfl
set_option maxRecDepth 20000 in
theorem mw_982 : Cond.code yX5_sure cX5_sure 6 (some FieldType.int) ∈ bw_tbl := bw_tg (bw_t5 (List.mem_of_getElem? (i := 22) rfl)) rfl
set_option maxRecDepth 20000 in
theorem mw_983 : Cond.methodLink "BlowerBreathLaw" 153 yX5_duel ∈ bw_tbl := bw_tg (bw_t5 (List.mem_of_getElem? (i := 23) (by decide +kernel))) rfl
set_option maxRecDepth 20000 in
theorem mw_984 : Cond.instanceMethod yX5_duel ∈ bw_tbl := bw_tg (bw_t5 (List.mem_of_getElem? (i := 24) (by decide +kernel))) rfl
set_option maxRecDepth 20000 in
theorem mw_985 : Cond.selects "BlowerBreathModel" yX5_duel yX5_duel ∈ bw_tbl := bw_tg (bw_t5 (List.mem_of_getElem? (i := 25) (by decide +kernel))) rfl
set_option maxRecDepth 20000 in
theorem mw_986 : Cond.code yX5_duel cX5_duel 5 (some FieldType.int) ∈ bw_tbl := bw_tg (bw_t5 (List.mem_of_getElem? (i := 26) rfl)) rfl
set_option maxRecDepth 20000 in
theorem mw_987 : Cond.methodLink "BlowerBreathModel" 248 yX5_weighs ∈ bw_tbl := bw_tg (bw_t5 (List.mem_of_getElem? (i := 27) (by decide +kernel))) rfl
set_option maxRecDepth 20000 in
theorem mw_989 : Cond.instanceMethod yX5_weighs ∈ bw_tbl := bw_tg (bw_t5 (List.mem_of_getElem? (i := 29) (by decide +kernel))) rfl
set_option maxRecDepth 20000 in
theorem mw_990 : Cond.code yX5_weighs cX5_weighs 6 (some FieldType.int) ∈ bw_tbl := bw_tg (bw_t5 (List.mem_of_getElem? (i := 30) rfl)) rfl
set_option maxRecDepth 20000 in
theorem mw_991 : Cond.methodLink "BlowerBreathLaw" 157 yX5_odds ∈ bw_tbl := bw_tg (bw_t5 (List.mem_of_getElem? (i := 31) (by decide +kernel))) rfl
set_option maxRecDepth 20000 in
theorem mw_992 : Cond.instanceMethod yX5_odds ∈ bw_tbl := bw_tg (bw_t5 (List.mem_of_getElem? (i := 32) (by decide +kernel))) rfl
set_option maxRecDepth 20000 in
theorem mw_993 : Cond.selects "BlowerBreathModel" yX5_odds yX5_odds ∈ bw_tbl := bw_tg (bw_t5 (List.mem_of_getElem? (i := 33) (by decide +kernel))) rfl
set_option maxRecDepth 20000 in
theorem mw_994 : Cond.code yX5_odds cX5_odds 3 (some FieldType.int) ∈ bw_tbl := bw_tg (bw_t5 (List.mem_of_getElem? (i := 34) rfl)) rfl
set_option maxRecDepth 20000 in
theorem mw_995 : Cond.constantLong "BlowerBreathModel" 252 12 ∈ bw_tbl := bw_tg (bw_t5 (List.mem_of_getElem? (i := 35) (by decide +kernel))) rfl
set_option maxRecDepth 20000 in
theorem mw_996 : Cond.methodLink "BlowerBreathModel" 254 yX5_ways ∈ bw_tbl := bw_tg (bw_t5 (List.mem_of_getElem? (i := 36) (by decide +kernel))) rfl
set_option maxRecDepth 20000 in
theorem mw_998 : Cond.instanceMethod yX5_ways ∈ bw_tbl := bw_tg (bw_t5 (List.mem_of_getElem? (i := 38) (by decide +kernel))) rfl
set_option maxRecDepth 20000 in
theorem mw_999 : Cond.code yX5_ways cX5_ways 9 (some FieldType.long) ∈ bw_tbl := bw_tg (bw_t5 (List.mem_of_getElem? (i := 39) rfl)) rfl
set_option maxRecDepth 20000 in
theorem mw_1000 : Cond.methodLink "BlowerBreathModel" 258 yX5_allWays ∈ bw_tbl := bw_tg (bw_t5 (List.mem_of_getElem? (i := 40) (by decide +kernel))) rfl
set_option maxRecDepth 20000 in
theorem mw_1002 : Cond.instanceMethod yX5_allWays ∈ bw_tbl := bw_tg (bw_t5 (List.mem_of_getElem? (i := 42) (by decide +kernel))) rfl
set_option maxRecDepth 20000 in
theorem mw_1003 : Cond.code yX5_allWays cX5_allWays 4 (some FieldType.long) ∈ bw_tbl := bw_tg (bw_t5 (List.mem_of_getElem? (i := 43) rfl)) rfl
set_option maxRecDepth 20000 in
theorem mw_1004 : Cond.methodLink "BlowerBreathModel" 262 yX5_fraction ∈ bw_tbl := bw_tg (bw_t5 (List.mem_of_getElem? (i := 44) (by decide +kernel))) rfl
set_option maxRecDepth 20000 in
theorem mw_1006 : Cond.instanceMethod yX5_fraction ∈ bw_tbl := bw_tg (bw_t5 (List.mem_of_getElem? (i := 46) (by decide +kernel))) rfl
set_option maxRecDepth 20000 in
theorem mw_1007 : Cond.code yX5_fraction cX5_fraction 11 (some FieldType.int) ∈ bw_tbl := bw_tg (bw_t5 (List.mem_of_getElem? (i := 47) rfl)) rfl
set_option maxRecDepth 20000 in
theorem mw_1008 : Cond.methodLink "BlowerBreathLaw" 161 yX5_mid ∈ bw_tbl := bw_tg (bw_t5 (List.mem_of_getElem? (i := 48) (by decide +kernel))) rfl
set_option maxRecDepth 20000 in
theorem mw_1009 : Cond.instanceMethod yX5_mid ∈ bw_tbl := bw_tg (bw_t5 (List.mem_of_getElem? (i := 49) (by decide +kernel))) rfl
set_option maxRecDepth 20000 in
theorem mw_1010 : Cond.selects "BlowerBreathModel" yX5_mid yX5_mid ∈ bw_tbl := bw_tg (bw_t5 (List.mem_of_getElem? (i := 50) (by decide +kernel))) rfl
set_option maxRecDepth 20000 in
theorem mw_1011 : Cond.code yX5_mid cX5_mid 2 (some FieldType.int) ∈ bw_tbl := bw_tg (bw_t5 (List.mem_of_getElem? (i := 51) rfl)) rfl
set_option maxRecDepth 20000 in
theorem mw_1012 : Cond.methodLink "BlowerBreathLaw" 165 yX5_lots ∈ bw_tbl := bw_tg (bw_t5 (List.mem_of_getElem? (i := 52) (by decide +kernel))) rfl
set_option maxRecDepth 20000 in
theorem mw_1013 : Cond.instanceMethod yX5_lots ∈ bw_tbl := bw_tg (bw_t5 (List.mem_of_getElem? (i := 53) (by decide +kernel))) rfl
set_option maxRecDepth 20000 in
theorem mw_1014 : Cond.selects "BlowerBreathModel" yX5_lots yX5_lots ∈ bw_tbl := bw_tg (bw_t5 (List.mem_of_getElem? (i := 54) (by decide +kernel))) rfl
set_option maxRecDepth 20000 in
theorem mw_1015 : Cond.code yX5_lots cX5_lots 7 (some FieldType.int) ∈ bw_tbl := bw_tg (bw_t5 (List.mem_of_getElem? (i := 55) rfl)) rfl
set_option maxRecDepth 20000 in
theorem mw_1016 : Cond.constantLong "BlowerBreathModel" 266 2147483646 ∈ bw_tbl := bw_tg (bw_t5 (List.mem_of_getElem? (i := 56) (by decide +kernel))) rfl
set_option maxRecDepth 20000 in
theorem mw_1017 : Cond.constantLong "BlowerBreathModel" 268 48271 ∈ bw_tbl := bw_tg (bw_t5 (List.mem_of_getElem? (i := 57) (by decide +kernel))) rfl
set_option maxRecDepth 20000 in
theorem mw_1018 : Cond.constantLong "BlowerBreathModel" 270 2147483647 ∈ bw_tbl := bw_tg (bw_t5 (List.mem_of_getElem? (i := 58) (by decide +kernel))) rfl
set_option maxRecDepth 20000 in
theorem mw_1019 : Cond.methodLink "BlowerBreathModel" 272 yX5_lot ∈ bw_tbl := bw_tg (bw_t5 (List.mem_of_getElem? (i := 59) (by decide +kernel))) rfl
set_option maxRecDepth 20000 in
theorem mw_1021 : Cond.instanceMethod yX5_lot ∈ bw_tbl := bw_tg (bw_t5 (List.mem_of_getElem? (i := 61) (by decide +kernel))) rfl
set_option maxRecDepth 20000 in
theorem mw_1022 : Cond.code yX5_lot cX5_lot 4 none ∈ bw_tbl := bw_tg (bw_t5 (List.mem_of_getElem? (i := 62) rfl)) rfl
set_option maxRecDepth 20000 in
theorem mw_1023 : Cond.methodLink "BlowerBreathLaw" 169 yX5_asked ∈ bw_tbl := bw_tg (bw_t5 (List.mem_of_getElem? (i := 63) (by decide +kernel))) rfl
set_option maxRecDepth 20000 in
theorem mw_1024 : Cond.instanceMethod yX5_asked ∈ bw_tbl := bw_tg (bw_t5 (List.mem_of_getElem? (i := 64) (by decide +kernel))) rfl
set_option maxRecDepth 20000 in
theorem mw_1025 : Cond.selects "BlowerBreathModel" yX5_asked yX5_asked ∈ bw_tbl := bw_tg (bw_t5 (List.mem_of_getElem? (i := 65) (by decide +kernel))) rfl
set_option maxRecDepth 20000 in
theorem mw_1026 : Cond.code yX5_asked cX5_asked 1 (some FieldType.int) ∈ bw_tbl := bw_tg (bw_t5 (List.mem_of_getElem? (i := 66) rfl)) rfl
set_option maxRecDepth 20000 in
theorem mw_1027 : Cond.methodLink "BlowerBreathLaw" 174 yX5_upper ∈ bw_tbl := bw_tg (bw_t5 (List.mem_of_getElem? (i := 67) (by decide +kernel))) rfl
set_option maxRecDepth 20000 in
theorem mw_1028 : Cond.instanceMethod yX5_upper ∈ bw_tbl := bw_tg (bw_t5 (List.mem_of_getElem? (i := 68) (by decide +kernel))) rfl
set_option maxRecDepth 20000 in
theorem mw_1029 : Cond.selects "BlowerBreathModel" yX5_upper yX5_upper ∈ bw_tbl := bw_tg (bw_t5 (List.mem_of_getElem? (i := 69) (by decide +kernel))) rfl
set_option maxRecDepth 20000 in
theorem mw_1030 : Cond.code yX5_upper cX5_upper 1 (some FieldType.long) ∈ bw_tbl := bw_tg (bw_t5 (List.mem_of_getElem? (i := 70) rfl)) rfl
set_option maxRecDepth 20000 in
theorem mw_1031 : Cond.methodLink "BlowerBreathLaw" 178 yX5_lower ∈ bw_tbl := bw_tg (bw_t5 (List.mem_of_getElem? (i := 71) (by decide +kernel))) rfl
set_option maxRecDepth 20000 in
theorem mw_1032 : Cond.instanceMethod yX5_lower ∈ bw_tbl := bw_tg (bw_t5 (List.mem_of_getElem? (i := 72) (by decide +kernel))) rfl
set_option maxRecDepth 20000 in
theorem mw_1033 : Cond.selects "BlowerBreathModel" yX5_lower yX5_lower ∈ bw_tbl := bw_tg (bw_t5 (List.mem_of_getElem? (i := 73) (by decide +kernel))) rfl
set_option maxRecDepth 20000 in
theorem mw_1034 : Cond.code yX5_lower cX5_lower 1 (some FieldType.long) ∈ bw_tbl := bw_tg (bw_t5 (List.mem_of_getElem? (i := 74) rfl)) rfl
set_option maxRecDepth 20000 in
theorem mw_1035 : Cond.methodLink "BlowerBreathLaw" 182 yX5_count ∈ bw_tbl := bw_tg (bw_t5 (List.mem_of_getElem? (i := 75) (by decide +kernel))) rfl
set_option maxRecDepth 20000 in
theorem mw_1036 : Cond.instanceMethod yX5_count ∈ bw_tbl := bw_tg (bw_t5 (List.mem_of_getElem? (i := 76) (by decide +kernel))) rfl
set_option maxRecDepth 20000 in
theorem mw_1037 : Cond.selects "BlowerBreathModel" yX5_count yX5_count ∈ bw_tbl := bw_tg (bw_t5 (List.mem_of_getElem? (i := 77) (by decide +kernel))) rfl
set_option maxRecDepth 20000 in
theorem mw_1038 : Cond.code yX5_count cX5_count 2 (some FieldType.int) ∈ bw_tbl := bw_tg (bw_t5 (List.mem_of_getElem? (i := 78) rfl)) rfl
set_option maxRecDepth 20000 in
theorem mw_1039 : Cond.methodLink "BlowerBreathModel" 276 yX5_together ∈ bw_tbl := bw_tg (bw_t5 (List.mem_of_getElem? (i := 79) (by decide +kernel))) rfl
set_option maxRecDepth 20000 in
theorem mw_1041 : Cond.instanceMethod yX5_together ∈ bw_tbl := bw_tg (bw_t5 (List.mem_of_getElem? (i := 81) (by decide +kernel))) rfl
set_option maxRecDepth 20000 in
theorem mw_1042 : Cond.code yX5_together cX5_together 4 (some FieldType.int) ∈ bw_tbl := bw_tg (bw_t5 (List.mem_of_getElem? (i := 82) rfl)) rfl
set_option maxRecDepth 20000 in
theorem mw_1043 : Cond.methodLink "BlowerBreathModel" 279 yX5_those ∈ bw_tbl := bw_tg (bw_t5 (List.mem_of_getElem? (i := 83) (by decide +kernel))) rfl
set_option maxRecDepth 20000 in
theorem mw_1045 : Cond.instanceMethod yX5_those ∈ bw_tbl := bw_tg (bw_t5 (List.mem_of_getElem? (i := 85) (by decide +kernel))) rfl
set_option maxRecDepth 20000 in
theorem mw_1046 : Cond.code yX5_those cX5_those 4 (some FieldType.int) ∈ bw_tbl := bw_tg (bw_t5 (List.mem_of_getElem? (i := 86) rfl)) rfl
set_option maxRecDepth 20000 in
theorem mw_1047 : Cond.methodLink "BlowerBreathModel" 282 yX5_there ∈ bw_tbl := bw_tg (bw_t5 (List.mem_of_getElem? (i := 87) (by decide +kernel))) rfl
set_option maxRecDepth 20000 in
theorem mw_1048 : Cond.static yX5_there ∈ bw_tbl := bw_tg (bw_t5 (List.mem_of_getElem? (i := 88) (by decide +kernel))) rfl
set_option maxRecDepth 20000 in
theorem mw_1049 : Cond.code yX5_there cX5_there 5 (some FieldType.int) ∈ bw_tbl := bw_tg (bw_t5 (List.mem_of_getElem? (i := 89) rfl)) rfl
set_option maxRecDepth 20000 in
theorem mw_1050 : Cond.methodLink "BlowerBreathLaw" 186 yX5_finding ∈ bw_tbl := bw_tg (bw_t5 (List.mem_of_getElem? (i := 90) (by decide +kernel))) rfl
set_option maxRecDepth 20000 in
theorem mw_1051 : Cond.instanceMethod yX5_finding ∈ bw_tbl := bw_tg (bw_t5 (List.mem_of_getElem? (i := 91) (by decide +kernel))) rfl
set_option maxRecDepth 20000 in
theorem mw_1052 : Cond.selects "BlowerBreathModel" yX5_finding yX5_finding ∈ bw_tbl := bw_tg (bw_t5 (List.mem_of_getElem? (i := 92) (by decide +kernel))) rfl
set_option maxRecDepth 20000 in
theorem mw_1053 : Cond.code yX5_finding cX5_finding 1 (some FieldType.int) ∈ bw_tbl := bw_tg (bw_t5 (List.mem_of_getElem? (i := 93) rfl)) rfl
set_option maxRecDepth 20000 in
theorem mw_1054 : Cond.methodLink "BlowerBreathLaw" 190 yX5_findings ∈ bw_tbl := bw_tg (bw_t5 (List.mem_of_getElem? (i := 94) (by decide +kernel))) rfl
set_option maxRecDepth 20000 in
theorem mw_1055 : Cond.instanceMethod yX5_findings ∈ bw_tbl := bw_tg (bw_t5 (List.mem_of_getElem? (i := 95) (by decide +kernel))) rfl
set_option maxRecDepth 20000 in
theorem mw_1056 : Cond.selects "BlowerBreathModel" yX5_findings yX5_findings ∈ bw_tbl := bw_tg (bw_t5 (List.mem_of_getElem? (i := 96) (by decide +kernel))) rfl
set_option maxRecDepth 20000 in
theorem mw_1057 : Cond.code yX5_findings cX5_findings 2 (some FieldType.int) ∈ bw_tbl := bw_tg (bw_t5 (List.mem_of_getElem? (i := 97) rfl)) rfl
set_option maxRecDepth 20000 in
theorem mw_1058 : Cond.methodLink "BlowerBreathLaw" 194 yX5_digest ∈ bw_tbl := bw_tg (bw_t5 (List.mem_of_getElem? (i := 98) (by decide +kernel))) rfl
set_option maxRecDepth 20000 in
theorem mw_1059 : Cond.instanceMethod yX5_digest ∈ bw_tbl := bw_tg (bw_t5 (List.mem_of_getElem? (i := 99) (by decide +kernel))) rfl
set_option maxRecDepth 20000 in
theorem mw_1060 : Cond.selects "BlowerBreathModel" yX5_digest yX5_digest ∈ bw_tbl := bw_tg (bw_t5 (List.mem_of_getElem? (i := 100) (by decide +kernel))) rfl
set_option maxRecDepth 20000 in
theorem mw_1061 : Cond.code yX5_digest cX5_digest 5 (some FieldType.long) ∈ bw_tbl := bw_tg (bw_t5 (List.mem_of_getElem? (i := 101) rfl)) rfl
set_option maxRecDepth 20000 in
theorem mw_1062 : Cond.constantLong "BlowerBreathModel" 286 17 ∈ bw_tbl := bw_tg (bw_t5 (List.mem_of_getElem? (i := 102) (by decide +kernel))) rfl
set_option maxRecDepth 20000 in
theorem mw_1063 : Cond.constantLong "BlowerBreathModel" 288 31 ∈ bw_tbl := bw_tg (bw_t5 (List.mem_of_getElem? (i := 103) (by decide +kernel))) rfl
set_option maxRecDepth 20000 in
theorem mw_1064 : Cond.methodLink "BlowerBreathModel" 290 yX5_count ∈ bw_tbl := bw_tg (bw_t5 (List.mem_of_getElem? (i := 104) (by decide +kernel))) rfl
set_option maxRecDepth 20000 in
theorem mw_1065 : Cond.selects "BlowerBreath" yX4_found yX4_found ∈ bw_tbl := bw_tg (bw_tp (q := (yX4_found, 17)) (List.mem_of_getElem? (i := 0) (by decide +kernel))) rfl
set_option maxRecDepth 20000 in
theorem mw_1066 : Cond.selects "BlowerBreath" yX4_refusedPlace yX4_refusedPlace ∈ bw_tbl := bw_tg (bw_tp (q := (yX4_refusedPlace, 17)) (List.mem_of_getElem? (i := 1) (by decide +kernel))) rfl
set_option maxRecDepth 20000 in
theorem mw_1067 : Cond.selects "BlowerBreath" yX4_tell yX4_tell ∈ bw_tbl := bw_tg (bw_tp (q := (yX4_tell, 17)) (List.mem_of_getElem? (i := 2) (by decide +kernel))) rfl
set_option maxRecDepth 20000 in
theorem mw_1068 : Cond.selects "BlowerBreath$Reader" yX2_passBlanks yX2_passBlanks ∈ bw_tbl := bw_tg (bw_tp (q := (yX2_passBlanks, 3)) (List.mem_of_getElem? (i := 3) (by decide +kernel))) rfl
set_option maxRecDepth 20000 in
theorem mw_1069 : Cond.selects "BlowerBreath$Reader" yX2_signAt yX2_signAt ∈ bw_tbl := bw_tg (bw_tp (q := (yX2_signAt, 3)) (List.mem_of_getElem? (i := 4) (by decide +kernel))) rfl
set_option maxRecDepth 20000 in
theorem mw_1070 : Cond.selects "BlowerBreath$Reader" yX2_readBellows yX2_readBellows ∈ bw_tbl := bw_tg (bw_tp (q := (yX2_readBellows, 3)) (List.mem_of_getElem? (i := 5) (by decide +kernel))) rfl
set_option maxRecDepth 20000 in
theorem mw_1071 : Cond.selects "BlowerBreath$Reader" yX2_figureAt yX2_figureAt ∈ bw_tbl := bw_tg (bw_tp (q := (yX2_figureAt, 3)) (List.mem_of_getElem? (i := 6) (by decide +kernel))) rfl
set_option maxRecDepth 20000 in
theorem mw_1072 : Cond.selects "BlowerBreath$Town" yX3_restart yX3_restart ∈ bw_tbl := bw_tg (bw_tp (q := (yX3_restart, 13)) (List.mem_of_getElem? (i := 7) (by decide +kernel))) rfl
set_option maxRecDepth 20000 in
theorem mw_1073 : Cond.selects "BlowerBreath$Reader" yX2_readPipe yX2_readPipe ∈ bw_tbl := bw_tg (bw_tp (q := (yX2_readPipe, 3)) (List.mem_of_getElem? (i := 8) (by decide +kernel))) rfl
set_option maxRecDepth 20000 in
theorem mw_1074 : Cond.selects "BlowerBreath" yX4_pipeFact yX4_pipeFact ∈ bw_tbl := bw_tg (bw_tp (q := (yX4_pipeFact, 17)) (List.mem_of_getElem? (i := 9) (by decide +kernel))) rfl
set_option maxRecDepth 20000 in
theorem mw_1075 : Cond.selects "BlowerBreath" yX4_wantingNoMoreThan yX4_wantingNoMoreThan ∈ bw_tbl := bw_tg (bw_tp (q := (yX4_wantingNoMoreThan, 17)) (List.mem_of_getElem? (i := 10) (by decide +kernel))) rfl
set_option maxRecDepth 20000 in
theorem mw_1076 : Cond.selects "BlowerBreath" yX4_perform yX4_perform ∈ bw_tbl := bw_tg (bw_tp (q := (yX4_perform, 17)) (List.mem_of_getElem? (i := 11) (by decide +kernel))) rfl
set_option maxRecDepth 20000 in
theorem mw_1077 : Cond.selects "BlowerBreath$Town" yX3_breathe yX3_breathe ∈ bw_tbl := bw_tg (bw_tp (q := (yX3_breathe, 13)) (List.mem_of_getElem? (i := 12) (by decide +kernel))) rfl
set_option maxRecDepth 20000 in
theorem mw_1078 : Cond.selects "BlowerBreath$Town" yX3_save yX3_save ∈ bw_tbl := bw_tg (bw_tp (q := (yX3_save, 13)) (List.mem_of_getElem? (i := 13) (by decide +kernel))) rfl
set_option maxRecDepth 20000 in
theorem mw_1079 : Cond.selects "BlowerBreath" yX4_spokenIfCut yX4_spokenIfCut ∈ bw_tbl := bw_tg (bw_tp (q := (yX4_spokenIfCut, 17)) (List.mem_of_getElem? (i := 14) (by decide +kernel))) rfl
set_option maxRecDepth 20000 in
theorem mw_1080 : Cond.selects "BlowerBreath" yX4_speakAlways yX4_speakAlways ∈ bw_tbl := bw_tg (bw_tp (q := (yX4_speakAlways, 17)) (List.mem_of_getElem? (i := 15) (by decide +kernel))) rfl
set_option maxRecDepth 20000 in
theorem mw_1081 : Cond.selects "BlowerBreath" yX4_refusedHearing yX4_refusedHearing ∈ bw_tbl := bw_tg (bw_tp (q := (yX4_refusedHearing, 17)) (List.mem_of_getElem? (i := 16) (by decide +kernel))) rfl
set_option maxRecDepth 20000 in
theorem mw_1082 : Cond.selects "BlowerBreath" yX4_leakingFits yX4_leakingFits ∈ bw_tbl := bw_tg (bw_tp (q := (yX4_leakingFits, 17)) (List.mem_of_getElem? (i := 17) (by decide +kernel))) rfl
set_option maxRecDepth 20000 in
theorem mw_1083 : Cond.selects "BlowerBreath" yX4_trialSpeaksLike yX4_trialSpeaksLike ∈ bw_tbl := bw_tg (bw_tp (q := (yX4_trialSpeaksLike, 17)) (List.mem_of_getElem? (i := 18) (by decide +kernel))) rfl
set_option maxRecDepth 20000 in
theorem mw_1084 : Cond.selects "BlowerBreath" yX4_tellShare yX4_tellShare ∈ bw_tbl := bw_tg (bw_tp (q := (yX4_tellShare, 17)) (List.mem_of_getElem? (i := 19) (by decide +kernel))) rfl
set_option maxRecDepth 20000 in
theorem mw_1085 : Cond.selects "BlowerBreath" yX4_tallyNextSpeakers yX4_tallyNextSpeakers ∈ bw_tbl := bw_tg (bw_tp (q := (yX4_tallyNextSpeakers, 17)) (List.mem_of_getElem? (i := 20) (by decide +kernel))) rfl
set_option maxRecDepth 20000 in
theorem mw_1086 : Cond.selects "BlowerBreath" yX4_greaterPart yX4_greaterPart ∈ bw_tbl := bw_tg (bw_tp (q := (yX4_greaterPart, 17)) (List.mem_of_getElem? (i := 21) (by decide +kernel))) rfl
set_option maxRecDepth 20000 in
theorem mw_1087 : Cond.selects "BlowerBreath" yX4_refusedSum yX4_refusedSum ∈ bw_tbl := bw_tg (bw_tp (q := (yX4_refusedSum, 17)) (List.mem_of_getElem? (i := 22) (by decide +kernel))) rfl
set_option maxRecDepth 20000 in
theorem mw_1088 : Cond.selects "BlowerBreath" yX4_bestGain yX4_bestGain ∈ bw_tbl := bw_tg (bw_tp (q := (yX4_bestGain, 17)) (List.mem_of_getElem? (i := 23) (by decide +kernel))) rfl
set_option maxRecDepth 20000 in
theorem mw_1089 : Cond.selects "BlowerBreath" yX4_tellMeanOfNextHour yX4_tellMeanOfNextHour ∈ bw_tbl := bw_tg (bw_tp (q := (yX4_tellMeanOfNextHour, 17)) (List.mem_of_getElem? (i := 24) (by decide +kernel))) rfl
set_option maxRecDepth 20000 in
theorem mw_1090 : Cond.selects "BlowerBreath" yX4_performLot yX4_performLot ∈ bw_tbl := bw_tg (bw_tp (q := (yX4_performLot, 17)) (List.mem_of_getElem? (i := 25) (by decide +kernel))) rfl
set_option maxRecDepth 20000 in
theorem mw_1091 : Cond.selects "BlowerBreath" yX4_keptTowns yX4_keptTowns ∈ bw_tbl := bw_tg (bw_tp (q := (yX4_keptTowns, 17)) (List.mem_of_getElem? (i := 26) (by decide +kernel))) rfl
set_option maxRecDepth 20000 in
theorem mw_1092 : Cond.selects "BlowerBreathModel" yX5_forgets yX5_forgets ∈ bw_tbl := bw_tg (bw_tp (q := (yX5_forgets, 31)) (List.mem_of_getElem? (i := 27) (by decide +kernel))) rfl
set_option maxRecDepth 20000 in
theorem mw_1093 : Cond.selects "BlowerBreathModel" yX5_found yX5_found ∈ bw_tbl := bw_tg (bw_tp (q := (yX5_found, 31)) (List.mem_of_getElem? (i := 28) (by decide +kernel))) rfl
set_option maxRecDepth 20000 in
theorem mw_1094 : Cond.selects "BlowerBreathModel" yX5_tell yX5_tell ∈ bw_tbl := bw_tg (bw_tp (q := (yX5_tell, 31)) (List.mem_of_getElem? (i := 29) (by decide +kernel))) rfl
set_option maxRecDepth 20000 in
theorem mw_1095 : Cond.selects "BlowerBreathModel" yX5_reads yX5_reads ∈ bw_tbl := bw_tg (bw_tp (q := (yX5_reads, 31)) (List.mem_of_getElem? (i := 30) (by decide +kernel))) rfl
set_option maxRecDepth 20000 in
theorem mw_1096 : Cond.selects "BlowerBreathModel" yX5_readsHead yX5_readsHead ∈ bw_tbl := bw_tg (bw_tp (q := (yX5_readsHead, 31)) (List.mem_of_getElem? (i := 31) (by decide +kernel))) rfl
set_option maxRecDepth 20000 in
theorem mw_1097 : Cond.selects "BlowerBreathModel" yX5_skips yX5_skips ∈ bw_tbl := bw_tg (bw_tp (q := (yX5_skips, 31)) (List.mem_of_getElem? (i := 32) (by decide +kernel))) rfl
set_option maxRecDepth 20000 in
theorem mw_1098 : Cond.selects "BlowerBreathModel" yX5_here yX5_here ∈ bw_tbl := bw_tg (bw_tp (q := (yX5_here, 31)) (List.mem_of_getElem? (i := 33) (by decide +kernel))) rfl
set_option maxRecDepth 20000 in
theorem mw_1099 : Cond.selects "BlowerBreathModel" yX5_isFigure yX5_isFigure ∈ bw_tbl := bw_tg (bw_tp (q := (yX5_isFigure, 31)) (List.mem_of_getElem? (i := 34) (by decide +kernel))) rfl
set_option maxRecDepth 20000 in
theorem mw_1100 : Cond.selects "BlowerBreathModel" yX5_readsPipe yX5_readsPipe ∈ bw_tbl := bw_tg (bw_tp (q := (yX5_readsPipe, 31)) (List.mem_of_getElem? (i := 35) (by decide +kernel))) rfl
set_option maxRecDepth 20000 in
theorem mw_1101 : Cond.selects "BlowerBreathModel" yX5_isPipe yX5_isPipe ∈ bw_tbl := bw_tg (bw_tp (q := (yX5_isPipe, 31)) (List.mem_of_getElem? (i := 36) (by decide +kernel))) rfl
set_option maxRecDepth 20000 in
theorem mw_1102 : Cond.selects "BlowerBreathModel" yX5_wantsOn yX5_wantsOn ∈ bw_tbl := bw_tg (bw_tp (q := (yX5_wantsOn, 31)) (List.mem_of_getElem? (i := 37) (by decide +kernel))) rfl
set_option maxRecDepth 20000 in
theorem mw_1103 : Cond.selects "BlowerBreathModel" yX5_isCutOff yX5_isCutOff ∈ bw_tbl := bw_tg (bw_tp (q := (yX5_isCutOff, 31)) (List.mem_of_getElem? (i := 38) (by decide +kernel))) rfl
set_option maxRecDepth 20000 in
theorem mw_1104 : Cond.selects "BlowerBreathModel" yX5_refuses yX5_refuses ∈ bw_tbl := bw_tg (bw_tp (q := (yX5_refuses, 31)) (List.mem_of_getElem? (i := 39) (by decide +kernel))) rfl
set_option maxRecDepth 20000 in
theorem mw_1105 : Cond.selects "BlowerBreathModel" yX5_remember yX5_remember ∈ bw_tbl := bw_tg (bw_tp (q := (yX5_remember, 31)) (List.mem_of_getElem? (i := 40) (by decide +kernel))) rfl
set_option maxRecDepth 20000 in
theorem mw_1106 : Cond.selects "BlowerBreathModel" yX5_goes yX5_goes ∈ bw_tbl := bw_tg (bw_tp (q := (yX5_goes, 31)) (List.mem_of_getElem? (i := 41) (by decide +kernel))) rfl
set_option maxRecDepth 20000 in
theorem mw_1107 : Cond.selects "BlowerBreathModel" yX5_takes yX5_takes ∈ bw_tbl := bw_tg (bw_tp (q := (yX5_takes, 31)) (List.mem_of_getElem? (i := 42) (by decide +kernel))) rfl
set_option maxRecDepth 20000 in
theorem mw_1108 : Cond.selects "BlowerBreathModel" yX5_turns yX5_turns ∈ bw_tbl := bw_tg (bw_tp (q := (yX5_turns, 31)) (List.mem_of_getElem? (i := 43) (by decide +kernel))) rfl
set_option maxRecDepth 20000 in
theorem mw_1109 : Cond.selects "BlowerBreathModel" yX5_layAside yX5_layAside ∈ bw_tbl := bw_tg (bw_tp (q := (yX5_layAside, 31)) (List.mem_of_getElem? (i := 44) (by decide +kernel))) rfl
set_option maxRecDepth 20000 in
theorem mw_1110 : Cond.selects "BlowerBreathModel" yX5_answer yX5_answer ∈ bw_tbl := bw_tg (bw_tp (q := (yX5_answer, 31)) (List.mem_of_getElem? (i := 45) (by decide +kernel))) rfl
set_option maxRecDepth 20000 in
theorem mw_1111 : Cond.selects "BlowerBreathModel" yX5_arePipes yX5_arePipes ∈ bw_tbl := bw_tg (bw_tp (q := (yX5_arePipes, 31)) (List.mem_of_getElem? (i := 46) (by decide +kernel))) rfl
set_option maxRecDepth 20000 in
theorem mw_1112 : Cond.selects "BlowerBreathModel" yX5_refusesAll yX5_refusesAll ∈ bw_tbl := bw_tg (bw_tp (q := (yX5_refusesAll, 31)) (List.mem_of_getElem? (i := 47) (by decide +kernel))) rfl
set_option maxRecDepth 20000 in
theorem mw_1113 : Cond.selects "BlowerBreathModel" yX5_refusesRow yX5_refusesRow ∈ bw_tbl := bw_tg (bw_tp (q := (yX5_refusesRow, 31)) (List.mem_of_getElem? (i := 48) (by decide +kernel))) rfl
set_option maxRecDepth 20000 in
theorem mw_1114 : Cond.selects "BlowerBreathModel" yX5_mayLeak yX5_mayLeak ∈ bw_tbl := bw_tg (bw_tp (q := (yX5_mayLeak, 31)) (List.mem_of_getElem? (i := 49) (by decide +kernel))) rfl
set_option maxRecDepth 20000 in
theorem mw_1115 : Cond.selects "BlowerBreathModel" yX5_goesAs yX5_goesAs ∈ bw_tbl := bw_tg (bw_tp (q := (yX5_goesAs, 31)) (List.mem_of_getElem? (i := 50) (by decide +kernel))) rfl
set_option maxRecDepth 20000 in
theorem mw_1116 : Cond.selects "BlowerBreathModel" yX5_counted yX5_counted ∈ bw_tbl := bw_tg (bw_tp (q := (yX5_counted, 31)) (List.mem_of_getElem? (i := 51) (by decide +kernel))) rfl
set_option maxRecDepth 20000 in
theorem mw_1117 : Cond.selects "BlowerBreathModel" yX5_wantsOf yX5_wantsOf ∈ bw_tbl := bw_tg (bw_tp (q := (yX5_wantsOf, 31)) (List.mem_of_getElem? (i := 52) (by decide +kernel))) rfl
set_option maxRecDepth 20000 in
theorem mw_1118 : Cond.selects "BlowerBreathModel" yX5_weighs yX5_weighs ∈ bw_tbl := bw_tg (bw_tp (q := (yX5_weighs, 31)) (List.mem_of_getElem? (i := 53) (by decide +kernel))) rfl
set_option maxRecDepth 20000 in
theorem mw_1119 : Cond.selects "BlowerBreathModel" yX5_ways yX5_ways ∈ bw_tbl := bw_tg (bw_tp (q := (yX5_ways, 31)) (List.mem_of_getElem? (i := 54) (by decide +kernel))) rfl
set_option maxRecDepth 20000 in
theorem mw_1120 : Cond.selects "BlowerBreathModel" yX5_allWays yX5_allWays ∈ bw_tbl := bw_tg (bw_tp (q := (yX5_allWays, 31)) (List.mem_of_getElem? (i := 55) (by decide +kernel))) rfl
set_option maxRecDepth 20000 in
theorem mw_1121 : Cond.selects "BlowerBreathModel" yX5_fraction yX5_fraction ∈ bw_tbl := bw_tg (bw_tp (q := (yX5_fraction, 31)) (List.mem_of_getElem? (i := 56) (by decide +kernel))) rfl
set_option maxRecDepth 20000 in
theorem mw_1122 : Cond.selects "BlowerBreathModel" yX5_lot yX5_lot ∈ bw_tbl := bw_tg (bw_tp (q := (yX5_lot, 31)) (List.mem_of_getElem? (i := 57) (by decide +kernel))) rfl
set_option maxRecDepth 20000 in
theorem mw_1123 : Cond.selects "BlowerBreathModel" yX5_together yX5_together ∈ bw_tbl := bw_tg (bw_tp (q := (yX5_together, 31)) (List.mem_of_getElem? (i := 58) (by decide +kernel))) rfl
set_option maxRecDepth 20000 in
theorem mw_1124 : Cond.selects "BlowerBreathModel" yX5_those yX5_those ∈ bw_tbl := bw_tg (bw_tp (q := (yX5_those, 31)) (List.mem_of_getElem? (i := 59) (by decide +kernel))) rfl
set_option maxRecDepth 20000 in
theorem inX0 : ∀ w ∈ wsX00, w ∈ bw_tbl := fun w h => bw_tg ((show ∀ w ∈ wsX00, w ∈ lw_tbl by decide +kernel) w h) ((show ∀ w ∈ wsX00, goodWord w = true by decide +kernel) w h)
set_option maxRecDepth 20000 in
theorem inX2 : ∀ w ∈ wsX20, w ∈ bw_tbl := fun w h => bw_tg ((show ∀ w ∈ wsX20, w ∈ lw_tbl by decide +kernel) w h) ((show ∀ w ∈ wsX20, goodWord w = true by decide +kernel) w h)
set_option maxRecDepth 20000 in
theorem inX3 : ∀ w ∈ wsX30, w ∈ bw_tbl := fun w h => bw_tg ((show ∀ w ∈ wsX30, w ∈ lw_tbl by decide +kernel) w h) ((show ∀ w ∈ wsX30, goodWord w = true by decide +kernel) w h)
set_option maxRecDepth 20000 in
theorem inX4 : ∀ w ∈ wsX40, w ∈ bw_tbl := fun w h => bw_tg ((show ∀ w ∈ wsX40, w ∈ lw_tbl by decide +kernel) w h) ((show ∀ w ∈ wsX40, goodWord w = true by decide +kernel) w h)
set_option maxRecDepth 20000 in
theorem inX5 : ∀ w ∈ wsX50, w ∈ bw_tbl := fun w h => bw_tg ((show ∀ w ∈ wsX50, w ∈ lw_tbl by decide +kernel) w h) ((show ∀ w ∈ wsX50, goodWord w = true by decide +kernel) w h)
theorem bw_good : ∀ w ∈ bw_tbl, goodWord w = true := fun w h => (List.mem_filter.mp h).2
