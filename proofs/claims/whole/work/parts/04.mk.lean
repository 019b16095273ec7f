def TBL : List Cond := lw_tbl.filter goodWord
theorem tb_lw : ∀ w ∈ TBL, w ∈ lw_tbl := fun _ h => (List.mem_filter.mp h).1
theorem tb_good : ∀ w ∈ TBL, goodWord w = true := fun _ h => (List.mem_filter.mp h).2
theorem tb_mem {w : Cond} (h : w ∈ lw_tbl) (g : goodWord w = true) : w ∈ TBL := List.mem_filter.mpr ⟨h, g⟩
theorem tb_1 {w : Cond} (h : w ∈ tables_1_1) : w ∈ lw_tbl := by
  have h2 : w ∈ tables_1 := by
    show w ∈ tables_1_1 ++ (tables_1_2 ++ (tables_1_3 ++ (tables_1_4 ++ (tables_1_5 ++ (tables_1_6 ++ (tables_1_7 ++ tables_1_8))))))
    exact (List.mem_append_left _ h)
  exact List.mem_append_right _ h2
theorem tb_2 {w : Cond} (h : w ∈ tables_1_2) : w ∈ lw_tbl := by
  have h2 : w ∈ tables_1 := by
    show w ∈ tables_1_1 ++ (tables_1_2 ++ (tables_1_3 ++ (tables_1_4 ++ (tables_1_5 ++ (tables_1_6 ++ (tables_1_7 ++ tables_1_8))))))
    exact (List.mem_append_right _ (List.mem_append_left _ h))
  exact List.mem_append_right _ h2
theorem tb_3 {w : Cond} (h : w ∈ tables_1_3) : w ∈ lw_tbl := by
  have h2 : w ∈ tables_1 := by
    show w ∈ tables_1_1 ++ (tables_1_2 ++ (tables_1_3 ++ (tables_1_4 ++ (tables_1_5 ++ (tables_1_6 ++ (tables_1_7 ++ tables_1_8))))))
    exact (List.mem_append_right _ (List.mem_append_right _ (List.mem_append_left _ h)))
  exact List.mem_append_right _ h2
theorem tb_4 {w : Cond} (h : w ∈ tables_1_4) : w ∈ lw_tbl := by
  have h2 : w ∈ tables_1 := by
    show w ∈ tables_1_1 ++ (tables_1_2 ++ (tables_1_3 ++ (tables_1_4 ++ (tables_1_5 ++ (tables_1_6 ++ (tables_1_7 ++ tables_1_8))))))
    exact (List.mem_append_right _ (List.mem_append_right _ (List.mem_append_right _ (List.mem_append_left _ h))))
  exact List.mem_append_right _ h2
theorem tb_5 {w : Cond} (h : w ∈ tables_1_5) : w ∈ lw_tbl := by
  have h2 : w ∈ tables_1 := by
    show w ∈ tables_1_1 ++ (tables_1_2 ++ (tables_1_3 ++ (tables_1_4 ++ (tables_1_5 ++ (tables_1_6 ++ (tables_1_7 ++ tables_1_8))))))
    exact (List.mem_append_right _ (List.mem_append_right _ (List.mem_append_right _ (List.mem_append_right _ (List.mem_append_left _ h)))))
  exact List.mem_append_right _ h2
theorem tb_6 {w : Cond} (h : w ∈ tables_1_6) : w ∈ lw_tbl := by
  have h2 : w ∈ tables_1 := by
    show w ∈ tables_1_1 ++ (tables_1_2 ++ (tables_1_3 ++ (tables_1_4 ++ (tables_1_5 ++ (tables_1_6 ++ (tables_1_7 ++ tables_1_8))))))
    exact (List.mem_append_right _ (List.mem_append_right _ (List.mem_append_right _ (List.mem_append_right _ (List.mem_append_right _ (List.mem_append_left _ h))))))
  exact List.mem_append_right _ h2
theorem tb_7 {w : Cond} (h : w ∈ tables_1_7) : w ∈ lw_tbl := by
  have h2 : w ∈ tables_1 := by
    show w ∈ tables_1_1 ++ (tables_1_2 ++ (tables_1_3 ++ (tables_1_4 ++ (tables_1_5 ++ (tables_1_6 ++ (tables_1_7 ++ tables_1_8))))))
    exact (List.mem_append_right _ (List.mem_append_right _ (List.mem_append_right _ (List.mem_append_right _ (List.mem_append_right _ (List.mem_append_right _ (List.mem_append_left _ h)))))))
  exact List.mem_append_right _ h2
theorem tb_8 {w : Cond} (h : w ∈ tables_1_8) : w ∈ lw_tbl := by
  have h2 : w ∈ tables_1 := by
    show w ∈ tables_1_1 ++ (tables_1_2 ++ (tables_1_3 ++ (tables_1_4 ++ (tables_1_5 ++ (tables_1_6 ++ (tables_1_7 ++ tables_1_8))))))
    exact (List.mem_append_right _ (List.mem_append_right _ (List.mem_append_right _ (List.mem_append_right _ (List.mem_append_right _ (List.mem_append_right _ (List.mem_append_right _ h)))))))
  exact List.mem_append_right _ h2
theorem tb_P {w : Cond} (h : w ∈ k2_sels lw_privs) : w ∈ lw_tbl := List.mem_append_left _ h
theorem mk_1_0 : Cond.initialized RL ∈ TBL := tb_mem (tb_1 (List.mem_of_getElem? (i := 0) rfl)) rfl
theorem mk_1_1 : Cond.initialized RX9 ∈ TBL := tb_mem (tb_1 (List.mem_of_getElem? (i := 1) rfl)) rfl
theorem mk_1_2 : Cond.initialized RX2 ∈ TBL := tb_mem (tb_1 (List.mem_of_getElem? (i := 2) rfl)) rfl
theorem mk_1_3 : Cond.initialized RX7 ∈ TBL := tb_mem (tb_1 (List.mem_of_getElem? (i := 3) rfl)) rfl
theorem mk_1_4 : Cond.initialized RX5 ∈ TBL := tb_mem (tb_1 (List.mem_of_getElem? (i := 4) rfl)) rfl
theorem mk_1_5 : Cond.initialized RX3 ∈ TBL := tb_mem (tb_1 (List.mem_of_getElem? (i := 5) rfl)) rfl
theorem mk_1_6 : Cond.initialized RX1 ∈ TBL := tb_mem (tb_1 (List.mem_of_getElem? (i := 6) rfl)) rfl
theorem mk_1_7 : Cond.initialized RX8 ∈ TBL := tb_mem (tb_1 (List.mem_of_getElem? (i := 7) rfl)) rfl
theorem mk_1_8 : Cond.initialized RX0 ∈ TBL := tb_mem (tb_1 (List.mem_of_getElem? (i := 8) rfl)) rfl
theorem mk_1_9 : Cond.initialized RX6 ∈ TBL := tb_mem (tb_1 (List.mem_of_getElem? (i := 9) rfl)) rfl
theorem mk_1_10 : Cond.initialized RX4 ∈ TBL := tb_mem (tb_1 (List.mem_of_getElem? (i := 10) rfl)) rfl
theorem mk_1_11 : Cond.initialized RX10 ∈ TBL := tb_mem (tb_1 (List.mem_of_getElem? (i := 11) rfl)) rfl
theorem mk_1_12 : Cond.initialized "java/lang/Throwable" ∈ TBL := tb_mem (tb_1 (List.mem_of_getElem? (i := 12) rfl)) rfl
theorem mk_1_13 : Cond.initialized "java/lang/Exception" ∈ TBL := tb_mem (tb_1 (List.mem_of_getElem? (i := 13) rfl)) rfl
theorem mk_1_14 : Cond.initialized "java/lang/RuntimeException" ∈ TBL := tb_mem (tb_1 (List.mem_of_getElem? (i := 14) rfl)) rfl
theorem mk_1_15 : Cond.initialized "java/lang/IllegalArgumentException" ∈ TBL := tb_mem (tb_1 (List.mem_of_getElem? (i := 15) rfl)) rfl
theorem mk_1_16 : Cond.initialized RJ0 ∈ TBL := tb_mem (tb_1 (List.mem_of_getElem? (i := 16) rfl)) rfl
theorem mk_1_17 : Cond.initialized RJ1 ∈ TBL := tb_mem (tb_1 (List.mem_of_getElem? (i := 17) rfl)) rfl
theorem mk_1_18 : Cond.initialized RJ3 ∈ TBL := tb_mem (tb_1 (List.mem_of_getElem? (i := 18) rfl)) rfl
theorem mk_1_19 : Cond.initialized RJ2 ∈ TBL := tb_mem (tb_1 (List.mem_of_getElem? (i := 19) rfl)) rfl
theorem mk_1_20 : Cond.initialized RJ9 ∈ TBL := tb_mem (tb_1 (List.mem_of_getElem? (i := 20) rfl)) rfl
theorem mk_1_21 : Cond.initialized "java/lang/IndexOutOfBoundsException" ∈ TBL := tb_mem (tb_1 (List.mem_of_getElem? (i := 21) rfl)) rfl
theorem mk_1_22 : Cond.initialized "java/util/NoSuchElementException" ∈ TBL := tb_mem (tb_1 (List.mem_of_getElem? (i := 22) rfl)) rfl
theorem mk_1_23 : Cond.initialized "java/lang/IllegalStateException" ∈ TBL := tb_mem (tb_1 (List.mem_of_getElem? (i := 23) rfl)) rfl
theorem mk_1_24 : Cond.initialized RJ6 ∈ TBL := tb_mem (tb_1 (List.mem_of_getElem? (i := 24) rfl)) rfl
theorem mk_1_25 : Cond.classLink RL 8 RX9 ∈ TBL := tb_mem (tb_1 (List.mem_of_getElem? (i := 25) rfl)) rfl
theorem mk_1_26 : Cond.instantiable RX9 14 ∈ TBL := tb_mem (tb_1 (List.mem_of_getElem? (i := 26) rfl)) rfl
theorem mk_1_27 : Cond.methodLink RL 89 yX9_init ∈ TBL := tb_mem (tb_1 (List.mem_of_getElem? (i := 27) rfl)) rfl
theorem mk_1_28 : Cond.instanceMethod yX9_init ∈ TBL := tb_mem (tb_1 (List.mem_of_getElem? (i := 28) rfl)) rfl
theorem mk_1_29 : Cond.code yX9_init cX9_init 1 none ∈ TBL := tb_mem (tb_1 (List.mem_of_getElem? (i := 29) rfl)) rfl
theorem mk_1_30 : Cond.methodLink RX9 1 ⟨"java/lang/Object", "<init>", "()V"⟩ ∈ TBL := tb_mem (tb_1 (List.mem_of_getElem? (i := 30) rfl)) rfl
theorem mk_1_31 : Cond.instanceMethod ⟨"java/lang/Object", "<init>", "()V"⟩ ∈ TBL := tb_mem (tb_1 (List.mem_of_getElem? (i := 31) rfl)) rfl
theorem mk_1_32 : Cond.code ⟨"java/lang/Object", "<init>", "()V"⟩ object_method_1_code 1 none ∈ TBL := tb_mem (tb_1 (List.mem_of_getElem? (i := 32) rfl)) rfl
theorem mk_1_33 : Cond.classLink RX9 7 RX2 ∈ TBL := tb_mem (tb_1 (List.mem_of_getElem? (i := 33) rfl)) rfl
theorem mk_1_34 : Cond.instantiable RX2 1 ∈ TBL := tb_mem (tb_1 (List.mem_of_getElem? (i := 34) rfl)) rfl
theorem mk_1_35 : Cond.methodLink RX9 11 yX2_init ∈ TBL := tb_mem (tb_1 (List.mem_of_getElem? (i := 35) rfl)) rfl
theorem mk_1_36 : Cond.instanceMethod yX2_init ∈ TBL := tb_mem (tb_1 (List.mem_of_getElem? (i := 36) rfl)) rfl
theorem mk_1_37 : Cond.code yX2_init cX2_init 2 none ∈ TBL := tb_mem (tb_1 (List.mem_of_getElem? (i := 37) rfl)) rfl
theorem mk_1_38 : Cond.methodLink RX2 3 ⟨"java/lang/Object", "<init>", "()V"⟩ ∈ TBL := tb_mem (tb_1 (List.mem_of_getElem? (i := 38) rfl)) rfl
theorem mk_1_39 : Cond.fieldLink RX2 9 "FlickedCrates$Numbers" "cells" "[I" ∈ TBL := tb_mem (tb_1 (List.mem_of_getElem? (i := 39) rfl)) rfl
theorem mk_1_40 : Cond.laysFinal "FlickedCrates$Numbers" "FlickedCrates$Numbers" "cells" "[I" ∈ TBL := tb_mem (tb_1 (List.mem_of_getElem? (i := 40) rfl)) rfl
theorem mk_1_43 : Cond.arrayClass .int ∈ TBL := tb_mem (tb_1 (List.mem_of_getElem? (i := 43) rfl)) rfl
theorem mk_1_44 : Cond.classLink RX9 25 RX7 ∈ TBL := tb_mem (tb_1 (List.mem_of_getElem? (i := 44) rfl)) rfl
theorem mk_1_45 : Cond.instantiable RX7 11 ∈ TBL := tb_mem (tb_1 (List.mem_of_getElem? (i := 45) rfl)) rfl
theorem mk_1_47 : Cond.instanceMethod yX7_init ∈ TBL := tb_mem (tb_1 (List.mem_of_getElem? (i := 47) rfl)) rfl
theorem mk_1_48 : Cond.code yX7_init cX7_init 1 none ∈ TBL := tb_mem (tb_1 (List.mem_of_getElem? (i := 48) rfl)) rfl
theorem mk_1_49 : Cond.methodLink RX7 3 ⟨"java/lang/Object", "<init>", "()V"⟩ ∈ TBL := tb_mem (tb_1 (List.mem_of_getElem? (i := 49) rfl)) rfl
theorem mk_1_50 : Cond.classLink RX7 9 RX2 ∈ TBL := tb_mem (tb_1 (List.mem_of_getElem? (i := 50) rfl)) rfl
theorem mk_1_51 : Cond.methodLink RX7 11 yX2_init ∈ TBL := tb_mem (tb_1 (List.mem_of_getElem? (i := 51) rfl)) rfl
theorem mk_1_52 : Cond.fieldLink RX7 38 "FlickedCrates$Told" "crates" "I" ∈ TBL := tb_mem (tb_1 (List.mem_of_getElem? (i := 52) rfl)) rfl
theorem mk_1_53 : Cond.fieldLink RX3 70 "FlickedCrates$Told" "crates" "I" ∈ TBL := tb_mem (tb_1 (List.mem_of_getElem? (i := 53) rfl)) rfl
theorem mk_1_54 : Cond.fieldLink RX9 131 "FlickedCrates$Told" "crates" "I" ∈ TBL := tb_mem (tb_1 (List.mem_of_getElem? (i := 54) rfl)) rfl
theorem mk_1_55 : Cond.fieldLink RX8 74 "FlickedCrates$Told" "crates" "I" ∈ TBL := tb_mem (tb_1 (List.mem_of_getElem? (i := 55) rfl)) rfl
theorem mk_1_56 : Cond.fieldLink RX1 140 "FlickedCrates$Told" "crates" "I" ∈ TBL := tb_mem (tb_1 (List.mem_of_getElem? (i := 56) rfl)) rfl
theorem mk_1_57 : Cond.fieldLink RX7 42 "FlickedCrates$Told" "sleeves" "I" ∈ TBL := tb_mem (tb_1 (List.mem_of_getElem? (i := 57) rfl)) rfl
theorem mk_1_58 : Cond.fieldLink RX0 38 "FlickedCrates$Told" "sleeves" "I" ∈ TBL := tb_mem (tb_1 (List.mem_of_getElem? (i := 58) rfl)) rfl
theorem mk_1_59 : Cond.fieldLink RX3 73 "FlickedCrates$Told" "sleeves" "I" ∈ TBL := tb_mem (tb_1 (List.mem_of_getElem? (i := 59) rfl)) rfl
theorem mk_1_60 : Cond.fieldLink RX9 128 "FlickedCrates$Told" "sleeves" "I" ∈ TBL := tb_mem (tb_1 (List.mem_of_getElem? (i := 60) rfl)) rfl
theorem mk_1_61 : Cond.fieldLink RX5 69 "FlickedCrates$Told" "sleeves" "I" ∈ TBL := tb_mem (tb_1 (List.mem_of_getElem? (i := 61) rfl)) rfl
theorem mk_1_62 : Cond.fieldLink RX7 45 "FlickedCrates$Told" "lookers" "I" ∈ TBL := tb_mem (tb_1 (List.mem_of_getElem? (i := 62) rfl)) rfl
theorem mk_1_63 : Cond.fieldLink RX1 75 "FlickedCrates$Told" "lookers" "I" ∈ TBL := tb_mem (tb_1 (List.mem_of_getElem? (i := 63) rfl)) rfl
theorem mk_1_64 : Cond.fieldLink RX3 76 "FlickedCrates$Told" "lookers" "I" ∈ TBL := tb_mem (tb_1 (List.mem_of_getElem? (i := 64) rfl)) rfl
theorem mk_1_65 : Cond.fieldLink RX9 134 "FlickedCrates$Told" "lookers" "I" ∈ TBL := tb_mem (tb_1 (List.mem_of_getElem? (i := 65) rfl)) rfl
theorem mk_1_66 : Cond.fieldLink RX7 48 "FlickedCrates$Told" "stop" "I" ∈ TBL := tb_mem (tb_1 (List.mem_of_getElem? (i := 66) rfl)) rfl
theorem mk_1_67 : Cond.fieldLink RX9 137 "FlickedCrates$Told" "stop" "I" ∈ TBL := tb_mem (tb_1 (List.mem_of_getElem? (i := 67) rfl)) rfl
theorem mk_1_68 : Cond.fieldLink RX1 149 "FlickedCrates$Told" "stop" "I" ∈ TBL := tb_mem (tb_1 (List.mem_of_getElem? (i := 68) rfl)) rfl
theorem mk_1_69 : Cond.fieldLink RX3 150 "FlickedCrates$Told" "stop" "I" ∈ TBL := tb_mem (tb_1 (List.mem_of_getElem? (i := 69) rfl)) rfl
theorem mk_1_70 : Cond.fieldLink RX7 14 "FlickedCrates$Told" "letters" "LFlickedCrates$Numbers;" ∈ TBL := tb_mem (tb_1 (List.mem_of_getElem? (i := 70) rfl)) rfl
theorem mk_1_71 : Cond.fieldLink RX3 106 "FlickedCrates$Told" "letters" "LFlickedCrates$Numbers;" ∈ TBL := tb_mem (tb_1 (List.mem_of_getElem? (i := 71) rfl)) rfl
theorem mk_1_72 : Cond.fieldLink RX9 149 "FlickedCrates$Told" "letters" "LFlickedCrates$Numbers;" ∈ TBL := tb_mem (tb_1 (List.mem_of_getElem? (i := 72) rfl)) rfl
theorem mk_1_73 : Cond.fieldLink RX7 20 "FlickedCrates$Told" "ofSleeves" "LFlickedCrates$Numbers;" ∈ TBL := tb_mem (tb_1 (List.mem_of_getElem? (i := 73) rfl)) rfl
theorem mk_1_74 : Cond.fieldLink RX7 23 "FlickedCrates$Told" "lying" "LFlickedCrates$Numbers;" ∈ TBL := tb_mem (tb_1 (List.mem_of_getElem? (i := 74) rfl)) rfl
theorem mk_1_75 : Cond.fieldLink RX5 29 "FlickedCrates$Told" "lying" "LFlickedCrates$Numbers;" ∈ TBL := tb_mem (tb_1 (List.mem_of_getElem? (i := 75) rfl)) rfl
theorem mk_1_76 : Cond.fieldLink RX3 128 "FlickedCrates$Told" "lying" "LFlickedCrates$Numbers;" ∈ TBL := tb_mem (tb_1 (List.mem_of_getElem? (i := 76) rfl)) rfl
theorem mk_1_77 : Cond.fieldLink RX7 26 "FlickedCrates$Told" "discs" "LFlickedCrates$Numbers;" ∈ TBL := tb_mem (tb_1 (List.mem_of_getElem? (i := 77) rfl)) rfl
theorem mk_1_78 : Cond.fieldLink RX5 41 "FlickedCrates$Told" "discs" "LFlickedCrates$Numbers;" ∈ TBL := tb_mem (tb_1 (List.mem_of_getElem? (i := 78) rfl)) rfl
theorem mk_1_79 : Cond.fieldLink RX3 134 "FlickedCrates$Told" "discs" "LFlickedCrates$Numbers;" ∈ TBL := tb_mem (tb_1 (List.mem_of_getElem? (i := 79) rfl)) rfl
theorem mk_1_80 : Cond.fieldLink RX7 29 "FlickedCrates$Told" "ofLookers" "LFlickedCrates$Numbers;" ∈ TBL := tb_mem (tb_1 (List.mem_of_getElem? (i := 80) rfl)) rfl
theorem mk_1_81 : Cond.fieldLink RX7 32 "FlickedCrates$Told" "misses" "LFlickedCrates$Numbers;" ∈ TBL := tb_mem (tb_1 (List.mem_of_getElem? (i := 81) rfl)) rfl
theorem mk_1_82 : Cond.fieldLink RX9 196 "FlickedCrates$Told" "misses" "LFlickedCrates$Numbers;" ∈ TBL := tb_mem (tb_1 (List.mem_of_getElem? (i := 82) rfl)) rfl
theorem mk_1_83 : Cond.fieldLink RX3 147 "FlickedCrates$Told" "misses" "LFlickedCrates$Numbers;" ∈ TBL := tb_mem (tb_1 (List.mem_of_getElem? (i := 83) rfl)) rfl
theorem mk_1_84 : Cond.fieldLink RX1 176 "FlickedCrates$Told" "misses" "LFlickedCrates$Numbers;" ∈ TBL := tb_mem (tb_1 (List.mem_of_getElem? (i := 84) rfl)) rfl
theorem mk_1_85 : Cond.fieldLink RX7 35 "FlickedCrates$Told" "weights" "LFlickedCrates$Numbers;" ∈ TBL := tb_mem (tb_1 (List.mem_of_getElem? (i := 85) rfl)) rfl
theorem mk_1_86 : Cond.fieldLink RX9 140 "FlickedCrates$Told" "weights" "LFlickedCrates$Numbers;" ∈ TBL := tb_mem (tb_1 (List.mem_of_getElem? (i := 86) rfl)) rfl
theorem mk_1_87 : Cond.fieldLink RX8 78 "FlickedCrates$Told" "weights" "LFlickedCrates$Numbers;" ∈ TBL := tb_mem (tb_1 (List.mem_of_getElem? (i := 87) rfl)) rfl
theorem mk_1_88 : Cond.fieldLink RX3 153 "FlickedCrates$Told" "weights" "LFlickedCrates$Numbers;" ∈ TBL := tb_mem (tb_1 (List.mem_of_getElem? (i := 88) rfl)) rfl
theorem mk_1_89 : Cond.fieldLink RX1 185 "FlickedCrates$Told" "weights" "LFlickedCrates$Numbers;" ∈ TBL := tb_mem (tb_1 (List.mem_of_getElem? (i := 89) rfl)) rfl
theorem mk_1_90 : Cond.lays "FlickedCrates$Told" "FlickedCrates$Told" "crates" "I" ∈ TBL := tb_mem (tb_1 (List.mem_of_getElem? (i := 90) rfl)) rfl
theorem mk_1_92 : Cond.lays "FlickedCrates$Told" "FlickedCrates$Told" "sleeves" "I" ∈ TBL := tb_mem (tb_1 (List.mem_of_getElem? (i := 92) rfl)) rfl
theorem mk_1_94 : Cond.lays "FlickedCrates$Told" "FlickedCrates$Told" "lookers" "I" ∈ TBL := tb_mem (tb_1 (List.mem_of_getElem? (i := 94) rfl)) rfl
theorem mk_1_96 : Cond.lays "FlickedCrates$Told" "FlickedCrates$Told" "stop" "I" ∈ TBL := tb_mem (tb_1 (List.mem_of_getElem? (i := 96) rfl)) rfl
theorem mk_1_98 : Cond.laysFinal "FlickedCrates$Told" "FlickedCrates$Told" "letters" "LFlickedCrates$Numbers;" ∈ TBL := tb_mem (tb_1 (List.mem_of_getElem? (i := 98) rfl)) rfl
theorem mk_1_100 : Cond.laysFinal "FlickedCrates$Told" "FlickedCrates$Told" "ofSleeves" "LFlickedCrates$Numbers;" ∈ TBL := tb_mem (tb_1 (List.mem_of_getElem? (i := 100) rfl)) rfl
theorem mk_1_102 : Cond.laysFinal "FlickedCrates$Told" "FlickedCrates$Told" "lying" "LFlickedCrates$Numbers;" ∈ TBL := tb_mem (tb_1 (List.mem_of_getElem? (i := 102) rfl)) rfl
theorem mk_1_104 : Cond.laysFinal "FlickedCrates$Told" "FlickedCrates$Told" "discs" "LFlickedCrates$Numbers;" ∈ TBL := tb_mem (tb_1 (List.mem_of_getElem? (i := 104) rfl)) rfl
theorem mk_1_106 : Cond.laysFinal "FlickedCrates$Told" "FlickedCrates$Told" "ofLookers" "LFlickedCrates$Numbers;" ∈ TBL := tb_mem (tb_1 (List.mem_of_getElem? (i := 106) rfl)) rfl
theorem mk_1_108 : Cond.laysFinal "FlickedCrates$Told" "FlickedCrates$Told" "misses" "LFlickedCrates$Numbers;" ∈ TBL := tb_mem (tb_1 (List.mem_of_getElem? (i := 108) rfl)) rfl
theorem mk_1_110 : Cond.laysFinal "FlickedCrates$Told" "FlickedCrates$Told" "weights" "LFlickedCrates$Numbers;" ∈ TBL := tb_mem (tb_1 (List.mem_of_getElem? (i := 110) rfl)) rfl
theorem mk_1_113 : Cond.classLink RX9 32 RX5 ∈ TBL := tb_mem (tb_1 (List.mem_of_getElem? (i := 113) rfl)) rfl
theorem mk_1_114 : Cond.instantiable RX5 4 ∈ TBL := tb_mem (tb_1 (List.mem_of_getElem? (i := 114) rfl)) rfl
theorem mk_1_116 : Cond.instanceMethod yX5_init ∈ TBL := tb_mem (tb_1 (List.mem_of_getElem? (i := 116) rfl)) rfl
theorem mk_1_117 : Cond.code yX5_init cX5_init 1 none ∈ TBL := tb_mem (tb_1 (List.mem_of_getElem? (i := 117) rfl)) rfl
theorem mk_1_118 : Cond.methodLink RX5 3 ⟨"java/lang/Object", "<init>", "()V"⟩ ∈ TBL := tb_mem (tb_1 (List.mem_of_getElem? (i := 118) rfl)) rfl
theorem mk_1_119 : Cond.classLink RX5 9 RX2 ∈ TBL := tb_mem (tb_1 (List.mem_of_getElem? (i := 119) rfl)) rfl
theorem mk_1_120 : Cond.methodLink RX5 11 yX2_init ∈ TBL := tb_mem (tb_1 (List.mem_of_getElem? (i := 120) rfl)) rfl
theorem mk_1_121 : Cond.fieldLink RX5 14 "FlickedCrates$Stock" "where" "LFlickedCrates$Numbers;" ∈ TBL := tb_mem (tb_1 (List.mem_of_getElem? (i := 121) rfl)) rfl
theorem mk_1_122 : Cond.fieldLink RX8 42 "FlickedCrates$Stock" "where" "LFlickedCrates$Numbers;" ∈ TBL := tb_mem (tb_1 (List.mem_of_getElem? (i := 122) rfl)) rfl
theorem mk_1_123 : Cond.fieldLink RX9 162 "FlickedCrates$Stock" "where" "LFlickedCrates$Numbers;" ∈ TBL := tb_mem (tb_1 (List.mem_of_getElem? (i := 123) rfl)) rfl
theorem mk_1_124 : Cond.fieldLink RX1 158 "FlickedCrates$Stock" "where" "LFlickedCrates$Numbers;" ∈ TBL := tb_mem (tb_1 (List.mem_of_getElem? (i := 124) rfl)) rfl
theorem mk_1_125 : Cond.fieldLink RX5 20 "FlickedCrates$Stock" "line" "LFlickedCrates$Numbers;" ∈ TBL := tb_mem (tb_1 (List.mem_of_getElem? (i := 125) rfl)) rfl
theorem mk_1_126 : Cond.fieldLink RX1 155 "FlickedCrates$Stock" "line" "LFlickedCrates$Numbers;" ∈ TBL := tb_mem (tb_1 (List.mem_of_getElem? (i := 126) rfl)) rfl
theorem mk_1_127 : Cond.fieldLink RX5 23 "FlickedCrates$Stock" "discs" "LFlickedCrates$Numbers;" ∈ TBL := tb_mem (tb_1 (List.mem_of_getElem? (i := 127) rfl)) rfl
theorem mk_1_128 : Cond.fieldLink RX6 27 "FlickedCrates$Stock" "discs" "LFlickedCrates$Numbers;" ∈ TBL := tb_mem (tb_1 (List.mem_of_getElem? (i := 128) rfl)) rfl
theorem mk_1_129 : Cond.fieldLink RX9 165 "FlickedCrates$Stock" "discs" "LFlickedCrates$Numbers;" ∈ TBL := tb_mem (tb_1 (List.mem_of_getElem? (i := 129) rfl)) rfl
theorem mk_1_130 : Cond.fieldLink RX5 26 "FlickedCrates$Stock" "dividers" "LFlickedCrates$Numbers;" ∈ TBL := tb_mem (tb_1 (List.mem_of_getElem? (i := 130) rfl)) rfl
theorem mk_1_131 : Cond.fieldLink RX9 208 "FlickedCrates$Stock" "dividers" "LFlickedCrates$Numbers;" ∈ TBL := tb_mem (tb_1 (List.mem_of_getElem? (i := 131) rfl)) rfl
theorem mk_1_132 : Cond.laysFinal "FlickedCrates$Stock" "FlickedCrates$Stock" "where" "LFlickedCrates$Numbers;" ∈ TBL := tb_mem (tb_1 (List.mem_of_getElem? (i := 132) rfl)) rfl
theorem mk_1_134 : Cond.laysFinal "FlickedCrates$Stock" "FlickedCrates$Stock" "line" "LFlickedCrates$Numbers;" ∈ TBL := tb_mem (tb_1 (List.mem_of_getElem? (i := 134) rfl)) rfl
theorem mk_1_136 : Cond.laysFinal "FlickedCrates$Stock" "FlickedCrates$Stock" "discs" "LFlickedCrates$Numbers;" ∈ TBL := tb_mem (tb_1 (List.mem_of_getElem? (i := 136) rfl)) rfl
theorem mk_1_138 : Cond.laysFinal "FlickedCrates$Stock" "FlickedCrates$Stock" "dividers" "LFlickedCrates$Numbers;" ∈ TBL := tb_mem (tb_1 (List.mem_of_getElem? (i := 138) rfl)) rfl
theorem mk_1_142 : Cond.classLink RX9 49 RX3 ∈ TBL := tb_mem (tb_1 (List.mem_of_getElem? (i := 142) rfl)) rfl
theorem mk_1_143 : Cond.instantiable RX3 9 ∈ TBL := tb_mem (tb_1 (List.mem_of_getElem? (i := 143) rfl)) rfl
theorem mk_1_144 : Cond.methodLink RX9 51 yX3_init ∈ TBL := tb_mem (tb_1 (List.mem_of_getElem? (i := 144) rfl)) rfl
theorem mk_1_145 : Cond.instanceMethod yX3_init ∈ TBL := tb_mem (tb_1 (List.mem_of_getElem? (i := 145) rfl)) rfl
theorem mk_1_146 : Cond.code yX3_init cX3_init 2 none ∈ TBL := tb_mem (tb_1 (List.mem_of_getElem? (i := 146) rfl)) rfl
theorem mk_1_147 : Cond.methodLink RX3 3 ⟨"java/lang/Object", "<init>", "()V"⟩ ∈ TBL := tb_mem (tb_1 (List.mem_of_getElem? (i := 147) rfl)) rfl
theorem mk_1_148 : Cond.classLink RX3 9 RX7 ∈ TBL := tb_mem (tb_1 (List.mem_of_getElem? (i := 148) rfl)) rfl
theorem mk_1_150 : Cond.fieldLink RX3 12 "FlickedCrates$Reader" "draft" "LFlickedCrates$Told;" ∈ TBL := tb_mem (tb_1 (List.mem_of_getElem? (i := 150) rfl)) rfl
theorem mk_1_151 : Cond.fieldLink RX9 122 "FlickedCrates$Reader" "draft" "LFlickedCrates$Told;" ∈ TBL := tb_mem (tb_1 (List.mem_of_getElem? (i := 151) rfl)) rfl
theorem mk_1_152 : Cond.fieldLink RX3 18 "FlickedCrates$Reader" "place" "I" ∈ TBL := tb_mem (tb_1 (List.mem_of_getElem? (i := 152) rfl)) rfl
theorem mk_1_153 : Cond.fieldLink RX9 119 "FlickedCrates$Reader" "place" "I" ∈ TBL := tb_mem (tb_1 (List.mem_of_getElem? (i := 153) rfl)) rfl
theorem mk_1_154 : Cond.fieldLink RX3 41 "FlickedCrates$Reader" "tape" "LFlickedCrates$Numbers;" ∈ TBL := tb_mem (tb_1 (List.mem_of_getElem? (i := 154) rfl)) rfl
theorem mk_1_155 : Cond.fieldLink RX3 22 "FlickedCrates$Reader" "end" "I" ∈ TBL := tb_mem (tb_1 (List.mem_of_getElem? (i := 155) rfl)) rfl
theorem mk_1_156 : Cond.fieldLink RX3 25 "FlickedCrates$Reader" "at" "I" ∈ TBL := tb_mem (tb_1 (List.mem_of_getElem? (i := 156) rfl)) rfl
theorem mk_1_157 : Cond.fieldLink RX3 28 "FlickedCrates$Reader" "numberPlace" "I" ∈ TBL := tb_mem (tb_1 (List.mem_of_getElem? (i := 157) rfl)) rfl
theorem mk_1_158 : Cond.fieldLink RX3 31 "FlickedCrates$Reader" "fault" "I" ∈ TBL := tb_mem (tb_1 (List.mem_of_getElem? (i := 158) rfl)) rfl
theorem mk_1_159 : Cond.fieldLink RX3 34 "FlickedCrates$Reader" "clauses" "I" ∈ TBL := tb_mem (tb_1 (List.mem_of_getElem? (i := 159) rfl)) rfl
theorem mk_1_160 : Cond.fieldLink RX3 37 "FlickedCrates$Reader" "onlyCrates" "Z" ∈ TBL := tb_mem (tb_1 (List.mem_of_getElem? (i := 160) rfl)) rfl
theorem mk_1_161 : Cond.laysFinal "FlickedCrates$Reader" "FlickedCrates$Reader" "draft" "LFlickedCrates$Told;" ∈ TBL := tb_mem (tb_1 (List.mem_of_getElem? (i := 161) rfl)) rfl
theorem mk_1_163 : Cond.lays "FlickedCrates$Reader" "FlickedCrates$Reader" "place" "I" ∈ TBL := tb_mem (tb_1 (List.mem_of_getElem? (i := 163) rfl)) rfl
theorem mk_1_165 : Cond.laysFinal "FlickedCrates$Reader" "FlickedCrates$Reader" "tape" "LFlickedCrates$Numbers;" ∈ TBL := tb_mem (tb_1 (List.mem_of_getElem? (i := 165) rfl)) rfl
theorem mk_1_167 : Cond.lays "FlickedCrates$Reader" "FlickedCrates$Reader" "end" "I" ∈ TBL := tb_mem (tb_1 (List.mem_of_getElem? (i := 167) rfl)) rfl
theorem mk_1_169 : Cond.lays "FlickedCrates$Reader" "FlickedCrates$Reader" "at" "I" ∈ TBL := tb_mem (tb_1 (List.mem_of_getElem? (i := 169) rfl)) rfl
theorem mk_1_171 : Cond.lays "FlickedCrates$Reader" "FlickedCrates$Reader" "numberPlace" "I" ∈ TBL := tb_mem (tb_1 (List.mem_of_getElem? (i := 171) rfl)) rfl
theorem mk_1_173 : Cond.lays "FlickedCrates$Reader" "FlickedCrates$Reader" "fault" "I" ∈ TBL := tb_mem (tb_1 (List.mem_of_getElem? (i := 173) rfl)) rfl
theorem mk_1_175 : Cond.lays "FlickedCrates$Reader" "FlickedCrates$Reader" "clauses" "I" ∈ TBL := tb_mem (tb_1 (List.mem_of_getElem? (i := 175) rfl)) rfl
theorem mk_1_177 : Cond.lays "FlickedCrates$Reader" "FlickedCrates$Reader" "onlyCrates" "Z" ∈ TBL := tb_mem (tb_1 (List.mem_of_getElem? (i := 177) rfl)) rfl
theorem mk_1_180 : Cond.classLink RX9 58 RX1 ∈ TBL := tb_mem (tb_1 (List.mem_of_getElem? (i := 180) rfl)) rfl
theorem mk_1_181 : Cond.instantiable RX1 16 ∈ TBL := tb_mem (tb_1 (List.mem_of_getElem? (i := 181) rfl)) rfl
theorem mk_1_182 : Cond.methodLink RX9 60 yX1_init ∈ TBL := tb_mem (tb_1 (List.mem_of_getElem? (i := 182) rfl)) rfl
theorem mk_1_183 : Cond.instanceMethod yX1_init ∈ TBL := tb_mem (tb_1 (List.mem_of_getElem? (i := 183) rfl)) rfl
theorem mk_1_184 : Cond.code yX1_init cX1_init 3 none ∈ TBL := tb_mem (tb_1 (List.mem_of_getElem? (i := 184) rfl)) rfl
theorem mk_1_185 : Cond.methodLink RX1 3 ⟨"java/lang/Object", "<init>", "()V"⟩ ∈ TBL := tb_mem (tb_1 (List.mem_of_getElem? (i := 185) rfl)) rfl
theorem mk_1_186 : Cond.classLink RX1 9 RX5 ∈ TBL := tb_mem (tb_1 (List.mem_of_getElem? (i := 186) rfl)) rfl
theorem mk_1_188 : Cond.classLink RX1 18 RX2 ∈ TBL := tb_mem (tb_1 (List.mem_of_getElem? (i := 188) rfl)) rfl
theorem mk_1_189 : Cond.methodLink RX1 20 yX2_init ∈ TBL := tb_mem (tb_1 (List.mem_of_getElem? (i := 189) rfl)) rfl
theorem mk_1_190 : Cond.fieldLink RX1 12 "FlickedCrates$Day" "stock" "LFlickedCrates$Stock;" ∈ TBL := tb_mem (tb_1 (List.mem_of_getElem? (i := 190) rfl)) rfl
theorem mk_1_191 : Cond.fieldLink RX9 225 "FlickedCrates$Day" "stock" "LFlickedCrates$Stock;" ∈ TBL := tb_mem (tb_1 (List.mem_of_getElem? (i := 191) rfl)) rfl
theorem mk_1_192 : Cond.fieldLink RX1 23 "FlickedCrates$Day" "bought" "LFlickedCrates$Numbers;" ∈ TBL := tb_mem (tb_1 (List.mem_of_getElem? (i := 192) rfl)) rfl
theorem mk_1_193 : Cond.fieldLink RX9 228 "FlickedCrates$Day" "bought" "LFlickedCrates$Numbers;" ∈ TBL := tb_mem (tb_1 (List.mem_of_getElem? (i := 193) rfl)) rfl
theorem mk_1_194 : Cond.fieldLink RX1 27 "FlickedCrates$Day" "spent" "LFlickedCrates$Numbers;" ∈ TBL := tb_mem (tb_1 (List.mem_of_getElem? (i := 194) rfl)) rfl
theorem mk_1_195 : Cond.fieldLink RX9 234 "FlickedCrates$Day" "spent" "LFlickedCrates$Numbers;" ∈ TBL := tb_mem (tb_1 (List.mem_of_getElem? (i := 195) rfl)) rfl
theorem mk_1_196 : Cond.fieldLink RX1 30 "FlickedCrates$Day" "waited" "LFlickedCrates$Numbers;" ∈ TBL := tb_mem (tb_1 (List.mem_of_getElem? (i := 196) rfl)) rfl
theorem mk_1_197 : Cond.fieldLink RX9 237 "FlickedCrates$Day" "waited" "LFlickedCrates$Numbers;" ∈ TBL := tb_mem (tb_1 (List.mem_of_getElem? (i := 197) rfl)) rfl
theorem mk_1_198 : Cond.fieldLink RX1 33 "FlickedCrates$Day" "gone" "LFlickedCrates$Numbers;" ∈ TBL := tb_mem (tb_1 (List.mem_of_getElem? (i := 198) rfl)) rfl
theorem mk_1_199 : Cond.fieldLink RX9 250 "FlickedCrates$Day" "gone" "LFlickedCrates$Numbers;" ∈ TBL := tb_mem (tb_1 (List.mem_of_getElem? (i := 199) rfl)) rfl
theorem mk_1_200 : Cond.fieldLink RX1 36 "FlickedCrates$Day" "heldUp" "I" ∈ TBL := tb_mem (tb_1 (List.mem_of_getElem? (i := 200) rfl)) rfl
theorem mk_1_201 : Cond.fieldLink RX9 240 "FlickedCrates$Day" "heldUp" "I" ∈ TBL := tb_mem (tb_1 (List.mem_of_getElem? (i := 201) rfl)) rfl
theorem mk_1_202 : Cond.fieldLink RX1 65 "FlickedCrates$Day" "told" "LFlickedCrates$Told;" ∈ TBL := tb_mem (tb_1 (List.mem_of_getElem? (i := 202) rfl)) rfl
theorem mk_1_203 : Cond.fieldLink RX1 69 "FlickedCrates$Day" "before" "LFlickedCrates$Stock;" ∈ TBL := tb_mem (tb_1 (List.mem_of_getElem? (i := 203) rfl)) rfl
theorem mk_1_204 : Cond.fieldLink RX1 40 "FlickedCrates$Day" "stands" "LFlickedCrates$Numbers;" ∈ TBL := tb_mem (tb_1 (List.mem_of_getElem? (i := 204) rfl)) rfl
theorem mk_1_205 : Cond.fieldLink RX1 43 "FlickedCrates$Day" "done" "LFlickedCrates$Numbers;" ∈ TBL := tb_mem (tb_1 (List.mem_of_getElem? (i := 205) rfl)) rfl
theorem mk_1_206 : Cond.fieldLink RX1 46 "FlickedCrates$Day" "held" "LFlickedCrates$Numbers;" ∈ TBL := tb_mem (tb_1 (List.mem_of_getElem? (i := 206) rfl)) rfl
theorem mk_1_207 : Cond.fieldLink RX1 49 "FlickedCrates$Day" "lefts" "I" ∈ TBL := tb_mem (tb_1 (List.mem_of_getElem? (i := 207) rfl)) rfl
theorem mk_1_208 : Cond.fieldLink RX1 52 "FlickedCrates$Day" "staying" "I" ∈ TBL := tb_mem (tb_1 (List.mem_of_getElem? (i := 208) rfl)) rfl
theorem mk_1_209 : Cond.fieldLink RX1 55 "FlickedCrates$Day" "seed" "I" ∈ TBL := tb_mem (tb_1 (List.mem_of_getElem? (i := 209) rfl)) rfl
theorem mk_1_210 : Cond.fieldLink RX1 58 "FlickedCrates$Day" "unseeing" "Z" ∈ TBL := tb_mem (tb_1 (List.mem_of_getElem? (i := 210) rfl)) rfl
theorem mk_1_211 : Cond.fieldLink RX1 62 "FlickedCrates$Day" "moved" "Z" ∈ TBL := tb_mem (tb_1 (List.mem_of_getElem? (i := 211) rfl)) rfl
theorem mk_1_212 : Cond.laysFinal "FlickedCrates$Day" "FlickedCrates$Day" "stock" "LFlickedCrates$Stock;" ∈ TBL := tb_mem (tb_1 (List.mem_of_getElem? (i := 212) rfl)) rfl
theorem mk_1_214 : Cond.laysFinal "FlickedCrates$Day" "FlickedCrates$Day" "bought" "LFlickedCrates$Numbers;" ∈ TBL := tb_mem (tb_1 (List.mem_of_getElem? (i := 214) rfl)) rfl
theorem mk_1_216 : Cond.laysFinal "FlickedCrates$Day" "FlickedCrates$Day" "spent" "LFlickedCrates$Numbers;" ∈ TBL := tb_mem (tb_1 (List.mem_of_getElem? (i := 216) rfl)) rfl
theorem mk_1_218 : Cond.laysFinal "FlickedCrates$Day" "FlickedCrates$Day" "waited" "LFlickedCrates$Numbers;" ∈ TBL := tb_mem (tb_1 (List.mem_of_getElem? (i := 218) rfl)) rfl
theorem mk_1_220 : Cond.laysFinal "FlickedCrates$Day" "FlickedCrates$Day" "gone" "LFlickedCrates$Numbers;" ∈ TBL := tb_mem (tb_1 (List.mem_of_getElem? (i := 220) rfl)) rfl
theorem mk_1_222 : Cond.lays "FlickedCrates$Day" "FlickedCrates$Day" "heldUp" "I" ∈ TBL := tb_mem (tb_1 (List.mem_of_getElem? (i := 222) rfl)) rfl
theorem mk_1_224 : Cond.laysFinal "FlickedCrates$Day" "FlickedCrates$Day" "told" "LFlickedCrates$Told;" ∈ TBL := tb_mem (tb_1 (List.mem_of_getElem? (i := 224) rfl)) rfl
theorem mk_1_226 : Cond.laysFinal "FlickedCrates$Day" "FlickedCrates$Day" "before" "LFlickedCrates$Stock;" ∈ TBL := tb_mem (tb_1 (List.mem_of_getElem? (i := 226) rfl)) rfl
theorem mk_1_228 : Cond.laysFinal "FlickedCrates$Day" "FlickedCrates$Day" "stands" "LFlickedCrates$Numbers;" ∈ TBL := tb_mem (tb_1 (List.mem_of_getElem? (i := 228) rfl)) rfl
theorem mk_1_230 : Cond.laysFinal "FlickedCrates$Day" "FlickedCrates$Day" "done" "LFlickedCrates$Numbers;" ∈ TBL := tb_mem (tb_1 (List.mem_of_getElem? (i := 230) rfl)) rfl
theorem mk_1_232 : Cond.laysFinal "FlickedCrates$Day" "FlickedCrates$Day" "held" "LFlickedCrates$Numbers;" ∈ TBL := tb_mem (tb_1 (List.mem_of_getElem? (i := 232) rfl)) rfl
theorem mk_1_234 : Cond.lays "FlickedCrates$Day" "FlickedCrates$Day" "lefts" "I" ∈ TBL := tb_mem (tb_1 (List.mem_of_getElem? (i := 234) rfl)) rfl
theorem mk_1_236 : Cond.lays "FlickedCrates$Day" "FlickedCrates$Day" "staying" "I" ∈ TBL := tb_mem (tb_1 (List.mem_of_getElem? (i := 236) rfl)) rfl
theorem mk_1_238 : Cond.lays "FlickedCrates$Day" "FlickedCrates$Day" "seed" "I" ∈ TBL := tb_mem (tb_1 (List.mem_of_getElem? (i := 238) rfl)) rfl
theorem mk_2_0 : Cond.lays "FlickedCrates$Day" "FlickedCrates$Day" "unseeing" "Z" ∈ TBL := tb_mem (tb_2 (List.mem_of_getElem? (i := 0) rfl)) rfl
theorem mk_2_2 : Cond.lays "FlickedCrates$Day" "FlickedCrates$Day" "moved" "Z" ∈ TBL := tb_mem (tb_2 (List.mem_of_getElem? (i := 2) rfl)) rfl
theorem mk_2_5 : Cond.classLink RX9 67 RX8 ∈ TBL := tb_mem (tb_2 (List.mem_of_getElem? (i := 5) rfl)) rfl
theorem mk_2_6 : Cond.instantiable RX8 6 ∈ TBL := tb_mem (tb_2 (List.mem_of_getElem? (i := 6) rfl)) rfl
theorem mk_2_7 : Cond.methodLink RX9 69 yX8_init ∈ TBL := tb_mem (tb_2 (List.mem_of_getElem? (i := 7) rfl)) rfl
theorem mk_2_8 : Cond.instanceMethod yX8_init ∈ TBL := tb_mem (tb_2 (List.mem_of_getElem? (i := 8) rfl)) rfl
theorem mk_2_9 : Cond.code yX8_init cX8_init 3 none ∈ TBL := tb_mem (tb_2 (List.mem_of_getElem? (i := 9) rfl)) rfl
theorem mk_2_10 : Cond.methodLink RX8 3 ⟨"java/lang/Object", "<init>", "()V"⟩ ∈ TBL := tb_mem (tb_2 (List.mem_of_getElem? (i := 10) rfl)) rfl
theorem mk_2_11 : Cond.classLink RX8 15 RX2 ∈ TBL := tb_mem (tb_2 (List.mem_of_getElem? (i := 11) rfl)) rfl
theorem mk_2_12 : Cond.methodLink RX8 17 yX2_init ∈ TBL := tb_mem (tb_2 (List.mem_of_getElem? (i := 12) rfl)) rfl
theorem mk_2_13 : Cond.fieldLink RX8 9 "FlickedCrates$Whereabouts" "whole" "J" ∈ TBL := tb_mem (tb_2 (List.mem_of_getElem? (i := 13) rfl)) rfl
theorem mk_2_14 : Cond.fieldLink RX9 260 "FlickedCrates$Whereabouts" "whole" "J" ∈ TBL := tb_mem (tb_2 (List.mem_of_getElem? (i := 14) rfl)) rfl
theorem mk_2_15 : Cond.fieldLink RX8 20 "FlickedCrates$Whereabouts" "ranked" "LFlickedCrates$Numbers;" ∈ TBL := tb_mem (tb_2 (List.mem_of_getElem? (i := 15) rfl)) rfl
theorem mk_2_16 : Cond.fieldLink RX9 283 "FlickedCrates$Whereabouts" "ranked" "LFlickedCrates$Numbers;" ∈ TBL := tb_mem (tb_2 (List.mem_of_getElem? (i := 16) rfl)) rfl
theorem mk_2_17 : Cond.fieldLink RX8 31 "FlickedCrates$Whereabouts" "told" "LFlickedCrates$Told;" ∈ TBL := tb_mem (tb_2 (List.mem_of_getElem? (i := 17) rfl)) rfl
theorem mk_2_18 : Cond.fieldLink RX8 35 "FlickedCrates$Whereabouts" "stock" "LFlickedCrates$Stock;" ∈ TBL := tb_mem (tb_2 (List.mem_of_getElem? (i := 18) rfl)) rfl
theorem mk_2_19 : Cond.fieldLink RX8 24 "FlickedCrates$Whereabouts" "shares" "[J" ∈ TBL := tb_mem (tb_2 (List.mem_of_getElem? (i := 19) rfl)) rfl
theorem mk_2_20 : Cond.fieldLink RX8 28 "FlickedCrates$Whereabouts" "before" "[J" ∈ TBL := tb_mem (tb_2 (List.mem_of_getElem? (i := 20) rfl)) rfl
theorem mk_2_21 : Cond.lays "FlickedCrates$Whereabouts" "FlickedCrates$Whereabouts" "whole" "J" ∈ TBL := tb_mem (tb_2 (List.mem_of_getElem? (i := 21) rfl)) rfl
theorem mk_2_23 : Cond.laysFinal "FlickedCrates$Whereabouts" "FlickedCrates$Whereabouts" "ranked" "LFlickedCrates$Numbers;" ∈ TBL := tb_mem (tb_2 (List.mem_of_getElem? (i := 23) rfl)) rfl
theorem mk_2_25 : Cond.laysFinal "FlickedCrates$Whereabouts" "FlickedCrates$Whereabouts" "told" "LFlickedCrates$Told;" ∈ TBL := tb_mem (tb_2 (List.mem_of_getElem? (i := 25) rfl)) rfl
theorem mk_2_27 : Cond.laysFinal "FlickedCrates$Whereabouts" "FlickedCrates$Whereabouts" "stock" "LFlickedCrates$Stock;" ∈ TBL := tb_mem (tb_2 (List.mem_of_getElem? (i := 27) rfl)) rfl
theorem mk_2_29 : Cond.laysFinal "FlickedCrates$Whereabouts" "FlickedCrates$Whereabouts" "shares" "[J" ∈ TBL := tb_mem (tb_2 (List.mem_of_getElem? (i := 29) rfl)) rfl
theorem mk_2_31 : Cond.laysFinal "FlickedCrates$Whereabouts" "FlickedCrates$Whereabouts" "before" "[J" ∈ TBL := tb_mem (tb_2 (List.mem_of_getElem? (i := 31) rfl)) rfl
theorem mk_2_34 : Cond.arrayClass .long ∈ TBL := tb_mem (tb_2 (List.mem_of_getElem? (i := 34) rfl)) rfl
theorem mk_2_35 : Cond.classLink RX9 74 RX0 ∈ TBL := tb_mem (tb_2 (List.mem_of_getElem? (i := 35) rfl)) rfl
theorem mk_2_36 : Cond.instantiable RX0 4 ∈ TBL := tb_mem (tb_2 (List.mem_of_getElem? (i := 36) rfl)) rfl
theorem mk_2_37 : Cond.methodLink RX9 76 yX0_init ∈ TBL := tb_mem (tb_2 (List.mem_of_getElem? (i := 37) rfl)) rfl
theorem mk_2_38 : Cond.instanceMethod yX0_init ∈ TBL := tb_mem (tb_2 (List.mem_of_getElem? (i := 38) rfl)) rfl
theorem mk_2_39 : Cond.code yX0_init cX0_init 3 none ∈ TBL := tb_mem (tb_2 (List.mem_of_getElem? (i := 39) rfl)) rfl
theorem mk_2_40 : Cond.methodLink RX0 3 ⟨"java/lang/Object", "<init>", "()V"⟩ ∈ TBL := tb_mem (tb_2 (List.mem_of_getElem? (i := 40) rfl)) rfl
theorem mk_2_41 : Cond.classLink RX0 9 RX2 ∈ TBL := tb_mem (tb_2 (List.mem_of_getElem? (i := 41) rfl)) rfl
theorem mk_2_42 : Cond.methodLink RX0 11 yX2_init ∈ TBL := tb_mem (tb_2 (List.mem_of_getElem? (i := 42) rfl)) rfl
theorem mk_2_43 : Cond.fieldLink RX0 14 "FlickedCrates$Basket" "goods" "LFlickedCrates$Numbers;" ∈ TBL := tb_mem (tb_2 (List.mem_of_getElem? (i := 43) rfl)) rfl
theorem mk_2_44 : Cond.fieldLink RX9 292 "FlickedCrates$Basket" "goods" "LFlickedCrates$Numbers;" ∈ TBL := tb_mem (tb_2 (List.mem_of_getElem? (i := 44) rfl)) rfl
theorem mk_2_45 : Cond.fieldLink RX0 20 "FlickedCrates$Basket" "sets" "LFlickedCrates$Numbers;" ∈ TBL := tb_mem (tb_2 (List.mem_of_getElem? (i := 45) rfl)) rfl
theorem mk_2_46 : Cond.fieldLink RX9 295 "FlickedCrates$Basket" "sets" "LFlickedCrates$Numbers;" ∈ TBL := tb_mem (tb_2 (List.mem_of_getElem? (i := 46) rfl)) rfl
theorem mk_2_47 : Cond.fieldLink RX0 23 "FlickedCrates$Basket" "told" "LFlickedCrates$Told;" ∈ TBL := tb_mem (tb_2 (List.mem_of_getElem? (i := 47) rfl)) rfl
theorem mk_2_48 : Cond.fieldLink RX0 27 "FlickedCrates$Basket" "stock" "LFlickedCrates$Stock;" ∈ TBL := tb_mem (tb_2 (List.mem_of_getElem? (i := 48) rfl)) rfl
theorem mk_2_49 : Cond.laysFinal "FlickedCrates$Basket" "FlickedCrates$Basket" "goods" "LFlickedCrates$Numbers;" ∈ TBL := tb_mem (tb_2 (List.mem_of_getElem? (i := 49) rfl)) rfl
theorem mk_2_51 : Cond.laysFinal "FlickedCrates$Basket" "FlickedCrates$Basket" "sets" "LFlickedCrates$Numbers;" ∈ TBL := tb_mem (tb_2 (List.mem_of_getElem? (i := 51) rfl)) rfl
theorem mk_2_53 : Cond.laysFinal "FlickedCrates$Basket" "FlickedCrates$Basket" "told" "LFlickedCrates$Told;" ∈ TBL := tb_mem (tb_2 (List.mem_of_getElem? (i := 53) rfl)) rfl
theorem mk_2_55 : Cond.laysFinal "FlickedCrates$Basket" "FlickedCrates$Basket" "stock" "LFlickedCrates$Stock;" ∈ TBL := tb_mem (tb_2 (List.mem_of_getElem? (i := 55) rfl)) rfl
theorem mk_2_58 : Cond.classLink RX9 81 RX6 ∈ TBL := tb_mem (tb_2 (List.mem_of_getElem? (i := 58) rfl)) rfl
theorem mk_2_59 : Cond.instantiable RX6 3 ∈ TBL := tb_mem (tb_2 (List.mem_of_getElem? (i := 59) rfl)) rfl
theorem mk_2_60 : Cond.methodLink RX9 83 yX6_init ∈ TBL := tb_mem (tb_2 (List.mem_of_getElem? (i := 60) rfl)) rfl
theorem mk_2_61 : Cond.instanceMethod yX6_init ∈ TBL := tb_mem (tb_2 (List.mem_of_getElem? (i := 61) rfl)) rfl
theorem mk_2_62 : Cond.code yX6_init cX6_init 2 none ∈ TBL := tb_mem (tb_2 (List.mem_of_getElem? (i := 62) rfl)) rfl
theorem mk_2_63 : Cond.methodLink RX6 3 ⟨"java/lang/Object", "<init>", "()V"⟩ ∈ TBL := tb_mem (tb_2 (List.mem_of_getElem? (i := 63) rfl)) rfl
theorem mk_2_64 : Cond.classLink RX6 9 RX2 ∈ TBL := tb_mem (tb_2 (List.mem_of_getElem? (i := 64) rfl)) rfl
theorem mk_2_65 : Cond.methodLink RX6 11 yX2_init ∈ TBL := tb_mem (tb_2 (List.mem_of_getElem? (i := 65) rfl)) rfl
theorem mk_2_66 : Cond.fieldLink RX6 14 "FlickedCrates$Swaps" "listed" "LFlickedCrates$Numbers;" ∈ TBL := tb_mem (tb_2 (List.mem_of_getElem? (i := 66) rfl)) rfl
theorem mk_2_67 : Cond.fieldLink RX9 307 "FlickedCrates$Swaps" "listed" "LFlickedCrates$Numbers;" ∈ TBL := tb_mem (tb_2 (List.mem_of_getElem? (i := 67) rfl)) rfl
theorem mk_2_68 : Cond.fieldLink RX6 23 "FlickedCrates$Swaps" "stock" "LFlickedCrates$Stock;" ∈ TBL := tb_mem (tb_2 (List.mem_of_getElem? (i := 68) rfl)) rfl
theorem mk_2_69 : Cond.fieldLink RX6 20 "FlickedCrates$Swaps" "discs" "LFlickedCrates$Numbers;" ∈ TBL := tb_mem (tb_2 (List.mem_of_getElem? (i := 69) rfl)) rfl
theorem mk_2_70 : Cond.laysFinal "FlickedCrates$Swaps" "FlickedCrates$Swaps" "listed" "LFlickedCrates$Numbers;" ∈ TBL := tb_mem (tb_2 (List.mem_of_getElem? (i := 70) rfl)) rfl
theorem mk_2_72 : Cond.laysFinal "FlickedCrates$Swaps" "FlickedCrates$Swaps" "stock" "LFlickedCrates$Stock;" ∈ TBL := tb_mem (tb_2 (List.mem_of_getElem? (i := 72) rfl)) rfl
theorem mk_2_74 : Cond.laysFinal "FlickedCrates$Swaps" "FlickedCrates$Swaps" "discs" "LFlickedCrates$Numbers;" ∈ TBL := tb_mem (tb_2 (List.mem_of_getElem? (i := 74) rfl)) rfl
theorem mk_2_77 : Cond.classLink RX9 90 RX4 ∈ TBL := tb_mem (tb_2 (List.mem_of_getElem? (i := 77) rfl)) rfl
theorem mk_2_78 : Cond.instantiable RX4 7 ∈ TBL := tb_mem (tb_2 (List.mem_of_getElem? (i := 78) rfl)) rfl
theorem mk_2_80 : Cond.instanceMethod yX4_init ∈ TBL := tb_mem (tb_2 (List.mem_of_getElem? (i := 80) rfl)) rfl
theorem mk_2_81 : Cond.code yX4_init cX4_init 1 none ∈ TBL := tb_mem (tb_2 (List.mem_of_getElem? (i := 81) rfl)) rfl
theorem mk_2_82 : Cond.methodLink RX4 3 ⟨"java/lang/Object", "<init>", "()V"⟩ ∈ TBL := tb_mem (tb_2 (List.mem_of_getElem? (i := 82) rfl)) rfl
theorem mk_2_83 : Cond.classLink RX4 30 RX2 ∈ TBL := tb_mem (tb_2 (List.mem_of_getElem? (i := 83) rfl)) rfl
theorem mk_2_84 : Cond.methodLink RX4 32 yX2_init ∈ TBL := tb_mem (tb_2 (List.mem_of_getElem? (i := 84) rfl)) rfl
theorem mk_2_85 : Cond.fieldLink RX4 9 "FlickedCrates$Rising" "rests" "I" ∈ TBL := tb_mem (tb_2 (List.mem_of_getElem? (i := 85) rfl)) rfl
theorem mk_2_86 : Cond.fieldLink RX9 326 "FlickedCrates$Rising" "rests" "I" ∈ TBL := tb_mem (tb_2 (List.mem_of_getElem? (i := 86) rfl)) rfl
theorem mk_2_87 : Cond.fieldLink RX4 15 "FlickedCrates$Rising" "first" "I" ∈ TBL := tb_mem (tb_2 (List.mem_of_getElem? (i := 87) rfl)) rfl
theorem mk_2_88 : Cond.fieldLink RX9 329 "FlickedCrates$Rising" "first" "I" ∈ TBL := tb_mem (tb_2 (List.mem_of_getElem? (i := 88) rfl)) rfl
theorem mk_2_89 : Cond.fieldLink RX4 18 "FlickedCrates$Rising" "players" "I" ∈ TBL := tb_mem (tb_2 (List.mem_of_getElem? (i := 89) rfl)) rfl
theorem mk_2_90 : Cond.fieldLink RX4 21 "FlickedCrates$Rising" "hours" "I" ∈ TBL := tb_mem (tb_2 (List.mem_of_getElem? (i := 90) rfl)) rfl
theorem mk_2_91 : Cond.fieldLink RX4 24 "FlickedCrates$Rising" "cost" "I" ∈ TBL := tb_mem (tb_2 (List.mem_of_getElem? (i := 91) rfl)) rfl
theorem mk_2_92 : Cond.fieldLink RX4 27 "FlickedCrates$Rising" "value" "I" ∈ TBL := tb_mem (tb_2 (List.mem_of_getElem? (i := 92) rfl)) rfl
theorem mk_2_93 : Cond.fieldLink RX4 35 "FlickedCrates$Rising" "chosen" "LFlickedCrates$Numbers;" ∈ TBL := tb_mem (tb_2 (List.mem_of_getElem? (i := 93) rfl)) rfl
theorem mk_2_94 : Cond.lays "FlickedCrates$Rising" "FlickedCrates$Rising" "rests" "I" ∈ TBL := tb_mem (tb_2 (List.mem_of_getElem? (i := 94) rfl)) rfl
theorem mk_2_96 : Cond.lays "FlickedCrates$Rising" "FlickedCrates$Rising" "first" "I" ∈ TBL := tb_mem (tb_2 (List.mem_of_getElem? (i := 96) rfl)) rfl
theorem mk_2_98 : Cond.lays "FlickedCrates$Rising" "FlickedCrates$Rising" "players" "I" ∈ TBL := tb_mem (tb_2 (List.mem_of_getElem? (i := 98) rfl)) rfl
theorem mk_2_100 : Cond.lays "FlickedCrates$Rising" "FlickedCrates$Rising" "hours" "I" ∈ TBL := tb_mem (tb_2 (List.mem_of_getElem? (i := 100) rfl)) rfl
theorem mk_2_102 : Cond.lays "FlickedCrates$Rising" "FlickedCrates$Rising" "cost" "I" ∈ TBL := tb_mem (tb_2 (List.mem_of_getElem? (i := 102) rfl)) rfl
theorem mk_2_104 : Cond.lays "FlickedCrates$Rising" "FlickedCrates$Rising" "value" "I" ∈ TBL := tb_mem (tb_2 (List.mem_of_getElem? (i := 104) rfl)) rfl
theorem mk_2_106 : Cond.laysFinal "FlickedCrates$Rising" "FlickedCrates$Rising" "chosen" "LFlickedCrates$Numbers;" ∈ TBL := tb_mem (tb_2 (List.mem_of_getElem? (i := 106) rfl)) rfl
theorem mk_2_109 : Cond.methodLink RX9 97 yX7_clear ∈ TBL := tb_mem (tb_2 (List.mem_of_getElem? (i := 109) rfl)) rfl
theorem mk_2_110 : Cond.instanceMethod yX7_clear ∈ TBL := tb_mem (tb_2 (List.mem_of_getElem? (i := 110) rfl)) rfl
theorem mk_2_111 : Cond.selects RX7 yX7_clear yX7_clear ∈ TBL := tb_mem (tb_2 (List.mem_of_getElem? (i := 111) rfl)) rfl
theorem mk_2_112 : Cond.code yX7_clear cX7_clear 2 none ∈ TBL := tb_mem (tb_2 (List.mem_of_getElem? (i := 112) rfl)) rfl
theorem mk_2_113 : Cond.methodLink RX7 51 yX2_fill ∈ TBL := tb_mem (tb_2 (List.mem_of_getElem? (i := 113) rfl)) rfl
theorem mk_2_114 : Cond.instanceMethod yX2_fill ∈ TBL := tb_mem (tb_2 (List.mem_of_getElem? (i := 114) rfl)) rfl
theorem mk_2_115 : Cond.selects RX2 yX2_fill yX2_fill ∈ TBL := tb_mem (tb_2 (List.mem_of_getElem? (i := 115) rfl)) rfl
theorem mk_2_116 : Cond.code yX2_fill cX2_fill 3 none ∈ TBL := tb_mem (tb_2 (List.mem_of_getElem? (i := 116) rfl)) rfl
theorem mk_2_117 : Cond.methodLink RX7 54 yX2_fillByNumber ∈ TBL := tb_mem (tb_2 (List.mem_of_getElem? (i := 117) rfl)) rfl
theorem mk_2_118 : Cond.instanceMethod yX2_fillByNumber ∈ TBL := tb_mem (tb_2 (List.mem_of_getElem? (i := 118) rfl)) rfl
theorem mk_2_119 : Cond.selects RX2 yX2_fillByNumber yX2_fillByNumber ∈ TBL := tb_mem (tb_2 (List.mem_of_getElem? (i := 119) rfl)) rfl
theorem mk_2_120 : Cond.code yX2_fillByNumber cX2_fillByNumber 2 none ∈ TBL := tb_mem (tb_2 (List.mem_of_getElem? (i := 120) rfl)) rfl
theorem mk_2_121 : Cond.methodLink RX7 57 yX2_put ∈ TBL := tb_mem (tb_2 (List.mem_of_getElem? (i := 121) rfl)) rfl
theorem mk_2_122 : Cond.instanceMethod yX2_put ∈ TBL := tb_mem (tb_2 (List.mem_of_getElem? (i := 122) rfl)) rfl
theorem mk_2_123 : Cond.selects RX2 yX2_put yX2_put ∈ TBL := tb_mem (tb_2 (List.mem_of_getElem? (i := 123) rfl)) rfl
theorem mk_2_124 : Cond.code yX2_put cX2_put 3 none ∈ TBL := tb_mem (tb_2 (List.mem_of_getElem? (i := 124) rfl)) rfl
theorem mk_2_125 : Cond.methodLink RX9 100 yX5_begin ∈ TBL := tb_mem (tb_2 (List.mem_of_getElem? (i := 125) rfl)) rfl
theorem mk_2_126 : Cond.instanceMethod yX5_begin ∈ TBL := tb_mem (tb_2 (List.mem_of_getElem? (i := 126) rfl)) rfl
theorem mk_2_127 : Cond.selects RX5 yX5_begin yX5_begin ∈ TBL := tb_mem (tb_2 (List.mem_of_getElem? (i := 127) rfl)) rfl
theorem mk_2_128 : Cond.code yX5_begin cX5_begin 2 none ∈ TBL := tb_mem (tb_2 (List.mem_of_getElem? (i := 128) rfl)) rfl
theorem mk_2_129 : Cond.methodLink RX5 34 yX2_copy ∈ TBL := tb_mem (tb_2 (List.mem_of_getElem? (i := 129) rfl)) rfl
theorem mk_2_130 : Cond.instanceMethod yX2_copy ∈ TBL := tb_mem (tb_2 (List.mem_of_getElem? (i := 130) rfl)) rfl
theorem mk_2_131 : Cond.selects RX2 yX2_copy yX2_copy ∈ TBL := tb_mem (tb_2 (List.mem_of_getElem? (i := 131) rfl)) rfl
theorem mk_2_132 : Cond.code yX2_copy cX2_copy 3 none ∈ TBL := tb_mem (tb_2 (List.mem_of_getElem? (i := 132) rfl)) rfl
theorem mk_2_133 : Cond.methodLink RX2 15 yX2_at ∈ TBL := tb_mem (tb_2 (List.mem_of_getElem? (i := 133) rfl)) rfl
theorem mk_2_134 : Cond.instanceMethod yX2_at ∈ TBL := tb_mem (tb_2 (List.mem_of_getElem? (i := 134) rfl)) rfl
theorem mk_2_135 : Cond.selects RX2 yX2_at yX2_at ∈ TBL := tb_mem (tb_2 (List.mem_of_getElem? (i := 135) rfl)) rfl
theorem mk_2_136 : Cond.code yX2_at cX2_at 2 (some .int) ∈ TBL := tb_mem (tb_2 (List.mem_of_getElem? (i := 136) rfl)) rfl
theorem mk_2_137 : Cond.methodLink RX5 38 yX2_fillByNumber ∈ TBL := tb_mem (tb_2 (List.mem_of_getElem? (i := 137) rfl)) rfl
theorem mk_2_138 : Cond.fieldLink RX9 14 "FlickedCrates" "tape" "LFlickedCrates$Numbers;" ∈ TBL := tb_mem (tb_2 (List.mem_of_getElem? (i := 138) rfl)) rfl
theorem mk_2_139 : Cond.fieldLink RX9 18 "FlickedCrates" "tapeBytes" "I" ∈ TBL := tb_mem (tb_2 (List.mem_of_getElem? (i := 139) rfl)) rfl
theorem mk_2_140 : Cond.fieldLink RX9 22 "FlickedCrates" "faultPlace" "I" ∈ TBL := tb_mem (tb_2 (List.mem_of_getElem? (i := 140) rfl)) rfl
theorem mk_2_141 : Cond.fieldLink RX9 28 "FlickedCrates" "told" "LFlickedCrates$Told;" ∈ TBL := tb_mem (tb_2 (List.mem_of_getElem? (i := 141) rfl)) rfl
theorem mk_2_142 : Cond.fieldLink RX9 35 "FlickedCrates" "stock" "LFlickedCrates$Stock;" ∈ TBL := tb_mem (tb_2 (List.mem_of_getElem? (i := 142) rfl)) rfl
theorem mk_2_143 : Cond.fieldLink RX9 39 "FlickedCrates" "album" "[LFlickedCrates$Stock;" ∈ TBL := tb_mem (tb_2 (List.mem_of_getElem? (i := 143) rfl)) rfl
theorem mk_2_144 : Cond.fieldLink RX9 43 "FlickedCrates" "images" "I" ∈ TBL := tb_mem (tb_2 (List.mem_of_getElem? (i := 144) rfl)) rfl
theorem mk_2_145 : Cond.fieldLink RX9 46 "FlickedCrates" "refused" "LFlickedCrates$Numbers;" ∈ TBL := tb_mem (tb_2 (List.mem_of_getElem? (i := 145) rfl)) rfl
theorem mk_2_146 : Cond.fieldLink RX9 54 "FlickedCrates" "reader" "LFlickedCrates$Reader;" ∈ TBL := tb_mem (tb_2 (List.mem_of_getElem? (i := 146) rfl)) rfl
theorem mk_2_147 : Cond.fieldLink RX9 63 "FlickedCrates" "theDay" "LFlickedCrates$Day;" ∈ TBL := tb_mem (tb_2 (List.mem_of_getElem? (i := 147) rfl)) rfl
theorem mk_2_148 : Cond.fieldLink RX9 70 "FlickedCrates" "whereabouts" "LFlickedCrates$Whereabouts;" ∈ TBL := tb_mem (tb_2 (List.mem_of_getElem? (i := 148) rfl)) rfl
theorem mk_2_149 : Cond.fieldLink RX9 77 "FlickedCrates" "theBasket" "LFlickedCrates$Basket;" ∈ TBL := tb_mem (tb_2 (List.mem_of_getElem? (i := 149) rfl)) rfl
theorem mk_2_150 : Cond.fieldLink RX9 86 "FlickedCrates" "swaps" "LFlickedCrates$Swaps;" ∈ TBL := tb_mem (tb_2 (List.mem_of_getElem? (i := 150) rfl)) rfl
theorem mk_2_151 : Cond.fieldLink RX9 93 "FlickedCrates" "rising" "LFlickedCrates$Rising;" ∈ TBL := tb_mem (tb_2 (List.mem_of_getElem? (i := 151) rfl)) rfl
theorem mk_2_152 : Cond.laysFinal "FlickedCrates" "FlickedCrates" "tape" "LFlickedCrates$Numbers;" ∈ TBL := tb_mem (tb_2 (List.mem_of_getElem? (i := 152) rfl)) rfl
theorem mk_2_154 : Cond.lays "FlickedCrates" "FlickedCrates" "tapeBytes" "I" ∈ TBL := tb_mem (tb_2 (List.mem_of_getElem? (i := 154) rfl)) rfl
theorem mk_2_156 : Cond.lays "FlickedCrates" "FlickedCrates" "faultPlace" "I" ∈ TBL := tb_mem (tb_2 (List.mem_of_getElem? (i := 156) rfl)) rfl
theorem mk_2_158 : Cond.laysFinal "FlickedCrates" "FlickedCrates" "told" "LFlickedCrates$Told;" ∈ TBL := tb_mem (tb_2 (List.mem_of_getElem? (i := 158) rfl)) rfl
theorem mk_2_160 : Cond.laysFinal "FlickedCrates" "FlickedCrates" "stock" "LFlickedCrates$Stock;" ∈ TBL := tb_mem (tb_2 (List.mem_of_getElem? (i := 160) rfl)) rfl
theorem mk_2_162 : Cond.laysFinal "FlickedCrates" "FlickedCrates" "album" "[LFlickedCrates$Stock;" ∈ TBL := tb_mem (tb_2 (List.mem_of_getElem? (i := 162) rfl)) rfl
theorem mk_2_164 : Cond.lays "FlickedCrates" "FlickedCrates" "images" "I" ∈ TBL := tb_mem (tb_2 (List.mem_of_getElem? (i := 164) rfl)) rfl
theorem mk_2_166 : Cond.laysFinal "FlickedCrates" "FlickedCrates" "refused" "LFlickedCrates$Numbers;" ∈ TBL := tb_mem (tb_2 (List.mem_of_getElem? (i := 166) rfl)) rfl
theorem mk_2_168 : Cond.laysFinal "FlickedCrates" "FlickedCrates" "reader" "LFlickedCrates$Reader;" ∈ TBL := tb_mem (tb_2 (List.mem_of_getElem? (i := 168) rfl)) rfl
theorem mk_2_170 : Cond.laysFinal "FlickedCrates" "FlickedCrates" "theDay" "LFlickedCrates$Day;" ∈ TBL := tb_mem (tb_2 (List.mem_of_getElem? (i := 170) rfl)) rfl
theorem mk_2_172 : Cond.laysFinal "FlickedCrates" "FlickedCrates" "whereabouts" "LFlickedCrates$Whereabouts;" ∈ TBL := tb_mem (tb_2 (List.mem_of_getElem? (i := 172) rfl)) rfl
theorem mk_2_174 : Cond.laysFinal "FlickedCrates" "FlickedCrates" "theBasket" "LFlickedCrates$Basket;" ∈ TBL := tb_mem (tb_2 (List.mem_of_getElem? (i := 174) rfl)) rfl
theorem mk_2_176 : Cond.laysFinal "FlickedCrates" "FlickedCrates" "swaps" "LFlickedCrates$Swaps;" ∈ TBL := tb_mem (tb_2 (List.mem_of_getElem? (i := 176) rfl)) rfl
theorem mk_2_178 : Cond.laysFinal "FlickedCrates" "FlickedCrates" "rising" "LFlickedCrates$Rising;" ∈ TBL := tb_mem (tb_2 (List.mem_of_getElem? (i := 178) rfl)) rfl
theorem mk_2_181 : Cond.methodLink RL 93 yX9_feed ∈ TBL := tb_mem (tb_2 (List.mem_of_getElem? (i := 181) rfl)) rfl
theorem mk_2_182 : Cond.instanceMethod yX9_feed ∈ TBL := tb_mem (tb_2 (List.mem_of_getElem? (i := 182) rfl)) rfl
theorem mk_2_183 : Cond.selects RX9 yX9_feed yX9_feed ∈ TBL := tb_mem (tb_2 (List.mem_of_getElem? (i := 183) rfl)) rfl
theorem mk_2_184 : Cond.code yX9_feed cX9_feed 6 (some .int) ∈ TBL := tb_mem (tb_2 (List.mem_of_getElem? (i := 184) rfl)) rfl
theorem mk_2_185 : Cond.methodLink RX9 104 yX9_putOnTape ∈ TBL := tb_mem (tb_2 (List.mem_of_getElem? (i := 185) rfl)) rfl
theorem mk_2_187 : Cond.instanceMethod yX9_putOnTape ∈ TBL := tb_mem (tb_2 (List.mem_of_getElem? (i := 187) rfl)) rfl
theorem mk_2_188 : Cond.code yX9_putOnTape cX9_putOnTape 3 none ∈ TBL := tb_mem (tb_2 (List.mem_of_getElem? (i := 188) rfl)) rfl
theorem mk_2_189 : Cond.methodLink RX9 107 yX2_put ∈ TBL := tb_mem (tb_2 (List.mem_of_getElem? (i := 189) rfl)) rfl
theorem mk_2_190 : Cond.methodLink RL 107 yX9_fault ∈ TBL := tb_mem (tb_2 (List.mem_of_getElem? (i := 190) rfl)) rfl
theorem mk_2_191 : Cond.instanceMethod yX9_fault ∈ TBL := tb_mem (tb_2 (List.mem_of_getElem? (i := 191) rfl)) rfl
theorem mk_2_192 : Cond.selects RX9 yX9_fault yX9_fault ∈ TBL := tb_mem (tb_2 (List.mem_of_getElem? (i := 192) rfl)) rfl
theorem mk_2_193 : Cond.code yX9_fault cX9_fault 1 (some .int) ∈ TBL := tb_mem (tb_2 (List.mem_of_getElem? (i := 193) rfl)) rfl
theorem mk_2_194 : Cond.methodLink RL 139 yX9_day ∈ TBL := tb_mem (tb_2 (List.mem_of_getElem? (i := 194) rfl)) rfl
theorem mk_2_195 : Cond.instanceMethod yX9_day ∈ TBL := tb_mem (tb_2 (List.mem_of_getElem? (i := 195) rfl)) rfl
theorem mk_2_196 : Cond.selects RX9 yX9_day yX9_day ∈ TBL := tb_mem (tb_2 (List.mem_of_getElem? (i := 196) rfl)) rfl
theorem mk_2_197 : Cond.code yX9_day cX9_day 2 (some .int) ∈ TBL := tb_mem (tb_2 (List.mem_of_getElem? (i := 197) rfl)) rfl
theorem mk_2_198 : Cond.methodLink RX9 217 yX7_leftBits ∈ TBL := tb_mem (tb_2 (List.mem_of_getElem? (i := 198) rfl)) rfl
theorem mk_2_199 : Cond.instanceMethod yX7_leftBits ∈ TBL := tb_mem (tb_2 (List.mem_of_getElem? (i := 199) rfl)) rfl
theorem mk_2_200 : Cond.selects RX7 yX7_leftBits yX7_leftBits ∈ TBL := tb_mem (tb_2 (List.mem_of_getElem? (i := 200) rfl)) rfl
theorem mk_2_201 : Cond.code yX7_leftBits cX7_leftBits 3 (some .int) ∈ TBL := tb_mem (tb_2 (List.mem_of_getElem? (i := 201) rfl)) rfl
theorem mk_2_202 : Cond.methodLink RX7 72 yX7_ofLooker ∈ TBL := tb_mem (tb_2 (List.mem_of_getElem? (i := 202) rfl)) rfl
theorem mk_2_203 : Cond.instanceMethod yX7_ofLooker ∈ TBL := tb_mem (tb_2 (List.mem_of_getElem? (i := 203) rfl)) rfl
theorem mk_2_204 : Cond.selects RX7 yX7_ofLooker yX7_ofLooker ∈ TBL := tb_mem (tb_2 (List.mem_of_getElem? (i := 204) rfl)) rfl
theorem mk_2_205 : Cond.code yX7_ofLooker cX7_ofLooker 3 (some .int) ∈ TBL := tb_mem (tb_2 (List.mem_of_getElem? (i := 205) rfl)) rfl
theorem mk_2_206 : Cond.methodLink RX7 65 yX2_at ∈ TBL := tb_mem (tb_2 (List.mem_of_getElem? (i := 206) rfl)) rfl
theorem mk_2_207 : Cond.methodLink RX9 221 yX1_go ∈ TBL := tb_mem (tb_2 (List.mem_of_getElem? (i := 207) rfl)) rfl
theorem mk_2_208 : Cond.instanceMethod yX1_go ∈ TBL := tb_mem (tb_2 (List.mem_of_getElem? (i := 208) rfl)) rfl
theorem mk_2_209 : Cond.selects RX1 yX1_go yX1_go ∈ TBL := tb_mem (tb_2 (List.mem_of_getElem? (i := 209) rfl)) rfl
theorem mk_2_210 : Cond.code yX1_go cX1_go 6 none ∈ TBL := tb_mem (tb_2 (List.mem_of_getElem? (i := 210) rfl)) rfl
theorem mk_2_211 : Cond.methodLink RX1 72 yX1_begin ∈ TBL := tb_mem (tb_2 (List.mem_of_getElem? (i := 211) rfl)) rfl
theorem mk_2_213 : Cond.instanceMethod yX1_begin ∈ TBL := tb_mem (tb_2 (List.mem_of_getElem? (i := 213) rfl)) rfl
theorem mk_2_214 : Cond.code yX1_begin cX1_begin 2 none ∈ TBL := tb_mem (tb_2 (List.mem_of_getElem? (i := 214) rfl)) rfl
theorem mk_2_215 : Cond.methodLink RX1 106 yX5_copy ∈ TBL := tb_mem (tb_2 (List.mem_of_getElem? (i := 215) rfl)) rfl
theorem mk_2_216 : Cond.instanceMethod yX5_copy ∈ TBL := tb_mem (tb_2 (List.mem_of_getElem? (i := 216) rfl)) rfl
theorem mk_2_217 : Cond.selects RX5 yX5_copy yX5_copy ∈ TBL := tb_mem (tb_2 (List.mem_of_getElem? (i := 217) rfl)) rfl
theorem mk_2_218 : Cond.code yX5_copy cX5_copy 2 none ∈ TBL := tb_mem (tb_2 (List.mem_of_getElem? (i := 218) rfl)) rfl
theorem mk_2_219 : Cond.methodLink RX1 110 yX2_fill ∈ TBL := tb_mem (tb_2 (List.mem_of_getElem? (i := 219) rfl)) rfl
theorem mk_2_220 : Cond.methodLink RX1 113 yX7_ofLooker ∈ TBL := tb_mem (tb_2 (List.mem_of_getElem? (i := 220) rfl)) rfl
theorem mk_2_221 : Cond.methodLink RX1 116 yX2_put ∈ TBL := tb_mem (tb_2 (List.mem_of_getElem? (i := 221) rfl)) rfl
theorem mk_2_222 : Cond.methodLink RX1 80 yX1_turn ∈ TBL := tb_mem (tb_2 (List.mem_of_getElem? (i := 222) rfl)) rfl
theorem mk_2_224 : Cond.instanceMethod yX1_turn ∈ TBL := tb_mem (tb_2 (List.mem_of_getElem? (i := 224) rfl)) rfl
theorem mk_2_225 : Cond.code yX1_turn cX1_turn 6 none ∈ TBL := tb_mem (tb_2 (List.mem_of_getElem? (i := 225) rfl)) rfl
theorem mk_2_226 : Cond.methodLink RX1 97 yX2_at ∈ TBL := tb_mem (tb_2 (List.mem_of_getElem? (i := 226) rfl)) rfl
theorem mk_2_227 : Cond.methodLink RX1 119 yX1_nextOf ∈ TBL := tb_mem (tb_2 (List.mem_of_getElem? (i := 227) rfl)) rfl
theorem mk_2_229 : Cond.instanceMethod yX1_nextOf ∈ TBL := tb_mem (tb_2 (List.mem_of_getElem? (i := 229) rfl)) rfl
theorem mk_2_230 : Cond.code yX1_nextOf cX1_nextOf 4 (some .int) ∈ TBL := tb_mem (tb_2 (List.mem_of_getElem? (i := 230) rfl)) rfl
theorem mk_2_232 : Cond.static yX9_hasBit ∈ TBL := tb_mem (tb_2 (List.mem_of_getElem? (i := 232) rfl)) rfl
theorem mk_2_233 : Cond.code yX9_hasBit cX9_hasBit 2 (some .boolean) ∈ TBL := tb_mem (tb_2 (List.mem_of_getElem? (i := 233) rfl)) rfl
theorem mk_2_234 : Cond.methodLink RX1 122 yX7_hasCrate ∈ TBL := tb_mem (tb_2 (List.mem_of_getElem? (i := 234) rfl)) rfl
theorem mk_2_235 : Cond.instanceMethod yX7_hasCrate ∈ TBL := tb_mem (tb_2 (List.mem_of_getElem? (i := 235) rfl)) rfl
theorem mk_2_236 : Cond.selects RX7 yX7_hasCrate yX7_hasCrate ∈ TBL := tb_mem (tb_2 (List.mem_of_getElem? (i := 236) rfl)) rfl
theorem mk_2_237 : Cond.code yX7_hasCrate cX7_hasCrate 2 (some .boolean) ∈ TBL := tb_mem (tb_2 (List.mem_of_getElem? (i := 237) rfl)) rfl
theorem mk_2_238 : Cond.methodLink RX1 126 yX1_leave ∈ TBL := tb_mem (tb_2 (List.mem_of_getElem? (i := 238) rfl)) rfl
theorem mk_3_0 : Cond.instanceMethod yX1_leave ∈ TBL := tb_mem (tb_3 (List.mem_of_getElem? (i := 0) rfl)) rfl
theorem mk_3_1 : Cond.code yX1_leave cX1_leave 3 none ∈ TBL := tb_mem (tb_3 (List.mem_of_getElem? (i := 1) rfl)) rfl
theorem mk_3_2 : Cond.methodLink RX1 129 yX1_whoStandsAt ∈ TBL := tb_mem (tb_3 (List.mem_of_getElem? (i := 2) rfl)) rfl
theorem mk_3_4 : Cond.instanceMethod yX1_whoStandsAt ∈ TBL := tb_mem (tb_3 (List.mem_of_getElem? (i := 4) rfl)) rfl
theorem mk_3_5 : Cond.code yX1_whoStandsAt cX1_whoStandsAt 3 (some .int) ∈ TBL := tb_mem (tb_3 (List.mem_of_getElem? (i := 5) rfl)) rfl
theorem mk_3_6 : Cond.methodLink RX1 132 yX1_come ∈ TBL := tb_mem (tb_3 (List.mem_of_getElem? (i := 6) rfl)) rfl
theorem mk_3_8 : Cond.instanceMethod yX1_come ∈ TBL := tb_mem (tb_3 (List.mem_of_getElem? (i := 8) rfl)) rfl
theorem mk_3_9 : Cond.code yX1_come cX1_come 5 none ∈ TBL := tb_mem (tb_3 (List.mem_of_getElem? (i := 9) rfl)) rfl
theorem mk_3_10 : Cond.methodLink RX1 143 yX5_size ∈ TBL := tb_mem (tb_3 (List.mem_of_getElem? (i := 10) rfl)) rfl
theorem mk_3_11 : Cond.instanceMethod yX5_size ∈ TBL := tb_mem (tb_3 (List.mem_of_getElem? (i := 11) rfl)) rfl
theorem mk_3_12 : Cond.selects RX5 yX5_size yX5_size ∈ TBL := tb_mem (tb_3 (List.mem_of_getElem? (i := 12) rfl)) rfl
theorem mk_3_13 : Cond.code yX5_size cX5_size 4 (some .int) ∈ TBL := tb_mem (tb_3 (List.mem_of_getElem? (i := 13) rfl)) rfl
theorem mk_3_14 : Cond.methodLink RX5 42 yX2_at ∈ TBL := tb_mem (tb_3 (List.mem_of_getElem? (i := 14) rfl)) rfl
theorem mk_3_16 : Cond.static yX9_roundedUp ∈ TBL := tb_mem (tb_3 (List.mem_of_getElem? (i := 16) rfl)) rfl
theorem mk_3_17 : Cond.code yX9_roundedUp cX9_roundedUp 2 (some .int) ∈ TBL := tb_mem (tb_3 (List.mem_of_getElem? (i := 17) rfl)) rfl
theorem mk_3_18 : Cond.methodLink RX1 152 yX1_goThrough ∈ TBL := tb_mem (tb_3 (List.mem_of_getElem? (i := 18) rfl)) rfl
theorem mk_3_20 : Cond.instanceMethod yX1_goThrough ∈ TBL := tb_mem (tb_3 (List.mem_of_getElem? (i := 20) rfl)) rfl
theorem mk_3_21 : Cond.code yX1_goThrough cX1_goThrough 7 (some .int) ∈ TBL := tb_mem (tb_3 (List.mem_of_getElem? (i := 21) rfl)) rfl
theorem mk_3_22 : Cond.methodLink RX1 161 yX1_holdsUp ∈ TBL := tb_mem (tb_3 (List.mem_of_getElem? (i := 22) rfl)) rfl
theorem mk_3_24 : Cond.instanceMethod yX1_holdsUp ∈ TBL := tb_mem (tb_3 (List.mem_of_getElem? (i := 24) rfl)) rfl
theorem mk_3_25 : Cond.code yX1_holdsUp cX1_holdsUp 4 (some .boolean) ∈ TBL := tb_mem (tb_3 (List.mem_of_getElem? (i := 25) rfl)) rfl
theorem mk_3_26 : Cond.methodLink RX1 173 yX1_draw ∈ TBL := tb_mem (tb_3 (List.mem_of_getElem? (i := 26) rfl)) rfl
theorem mk_3_28 : Cond.instanceMethod yX1_draw ∈ TBL := tb_mem (tb_3 (List.mem_of_getElem? (i := 28) rfl)) rfl
theorem mk_3_29 : Cond.code yX1_draw cX1_draw 3 (some .int) ∈ TBL := tb_mem (tb_3 (List.mem_of_getElem? (i := 29) rfl)) rfl
theorem mk_3_30 : Cond.constant RX1 192 (1103515245) ∈ TBL := tb_mem (tb_3 (List.mem_of_getElem? (i := 30) rfl)) rfl
theorem mk_3_31 : Cond.methodLink RX1 179 yX7_ofSleeve ∈ TBL := tb_mem (tb_3 (List.mem_of_getElem? (i := 31) rfl)) rfl
theorem mk_3_32 : Cond.instanceMethod yX7_ofSleeve ∈ TBL := tb_mem (tb_3 (List.mem_of_getElem? (i := 32) rfl)) rfl
theorem mk_3_33 : Cond.selects RX7 yX7_ofSleeve yX7_ofSleeve ∈ TBL := tb_mem (tb_3 (List.mem_of_getElem? (i := 33) rfl)) rfl
theorem mk_3_34 : Cond.code yX7_ofSleeve cX7_ofSleeve 3 (some .int) ∈ TBL := tb_mem (tb_3 (List.mem_of_getElem? (i := 34) rfl)) rfl
theorem mk_3_35 : Cond.methodLink RX1 164 yX1_buysIt ∈ TBL := tb_mem (tb_3 (List.mem_of_getElem? (i := 35) rfl)) rfl
theorem mk_3_37 : Cond.instanceMethod yX1_buysIt ∈ TBL := tb_mem (tb_3 (List.mem_of_getElem? (i := 37) rfl)) rfl
theorem mk_3_38 : Cond.code yX1_buysIt cX1_buysIt 5 (some .boolean) ∈ TBL := tb_mem (tb_3 (List.mem_of_getElem? (i := 38) rfl)) rfl
theorem mk_3_39 : Cond.methodLink RX1 182 yX5_sell ∈ TBL := tb_mem (tb_3 (List.mem_of_getElem? (i := 39) rfl)) rfl
theorem mk_3_40 : Cond.instanceMethod yX5_sell ∈ TBL := tb_mem (tb_3 (List.mem_of_getElem? (i := 40) rfl)) rfl
theorem mk_3_41 : Cond.selects RX5 yX5_sell yX5_sell ∈ TBL := tb_mem (tb_3 (List.mem_of_getElem? (i := 41) rfl)) rfl
theorem mk_3_42 : Cond.code yX5_sell cX5_sell 2 none ∈ TBL := tb_mem (tb_3 (List.mem_of_getElem? (i := 42) rfl)) rfl
theorem mk_3_43 : Cond.methodLink RX5 53 yX2_put ∈ TBL := tb_mem (tb_3 (List.mem_of_getElem? (i := 43) rfl)) rfl
theorem mk_3_44 : Cond.methodLink RX1 103 yX2_add ∈ TBL := tb_mem (tb_3 (List.mem_of_getElem? (i := 44) rfl)) rfl
theorem mk_3_45 : Cond.instanceMethod yX2_add ∈ TBL := tb_mem (tb_3 (List.mem_of_getElem? (i := 45) rfl)) rfl
theorem mk_3_46 : Cond.selects RX2 yX2_add yX2_add ∈ TBL := tb_mem (tb_3 (List.mem_of_getElem? (i := 46) rfl)) rfl
theorem mk_3_47 : Cond.code yX2_add cX2_add 3 none ∈ TBL := tb_mem (tb_3 (List.mem_of_getElem? (i := 47) rfl)) rfl
theorem mk_3_48 : Cond.methodLink RX2 19 yX2_put ∈ TBL := tb_mem (tb_3 (List.mem_of_getElem? (i := 48) rfl)) rfl
theorem mk_3_49 : Cond.methodLink RX1 167 yX1_drawnCrate ∈ TBL := tb_mem (tb_3 (List.mem_of_getElem? (i := 49) rfl)) rfl
theorem mk_3_51 : Cond.instanceMethod yX1_drawnCrate ∈ TBL := tb_mem (tb_3 (List.mem_of_getElem? (i := 51) rfl)) rfl
theorem mk_3_52 : Cond.code yX1_drawnCrate cX1_drawnCrate 6 (some .int) ∈ TBL := tb_mem (tb_3 (List.mem_of_getElem? (i := 52) rfl)) rfl
theorem mk_3_53 : Cond.methodLink RX1 188 yX2_sum ∈ TBL := tb_mem (tb_3 (List.mem_of_getElem? (i := 53) rfl)) rfl
theorem mk_3_54 : Cond.instanceMethod yX2_sum ∈ TBL := tb_mem (tb_3 (List.mem_of_getElem? (i := 54) rfl)) rfl
theorem mk_3_55 : Cond.selects RX2 yX2_sum yX2_sum ∈ TBL := tb_mem (tb_3 (List.mem_of_getElem? (i := 55) rfl)) rfl
theorem mk_3_56 : Cond.code yX2_sum cX2_sum 3 (some .int) ∈ TBL := tb_mem (tb_3 (List.mem_of_getElem? (i := 56) rfl)) rfl
theorem mk_3_57 : Cond.methodLink RX1 170 yX5_putBehind ∈ TBL := tb_mem (tb_3 (List.mem_of_getElem? (i := 57) rfl)) rfl
theorem mk_3_58 : Cond.instanceMethod yX5_putBehind ∈ TBL := tb_mem (tb_3 (List.mem_of_getElem? (i := 58) rfl)) rfl
theorem mk_3_59 : Cond.selects RX5 yX5_putBehind yX5_putBehind ∈ TBL := tb_mem (tb_3 (List.mem_of_getElem? (i := 59) rfl)) rfl
theorem mk_3_60 : Cond.code yX5_putBehind cX5_putBehind 3 none ∈ TBL := tb_mem (tb_3 (List.mem_of_getElem? (i := 60) rfl)) rfl
theorem mk_3_61 : Cond.methodLink RX5 46 yX2_placeOf ∈ TBL := tb_mem (tb_3 (List.mem_of_getElem? (i := 61) rfl)) rfl
theorem mk_3_62 : Cond.instanceMethod yX2_placeOf ∈ TBL := tb_mem (tb_3 (List.mem_of_getElem? (i := 62) rfl)) rfl
theorem mk_3_63 : Cond.selects RX2 yX2_placeOf yX2_placeOf ∈ TBL := tb_mem (tb_3 (List.mem_of_getElem? (i := 63) rfl)) rfl
theorem mk_3_64 : Cond.code yX2_placeOf cX2_placeOf 3 (some .int) ∈ TBL := tb_mem (tb_3 (List.mem_of_getElem? (i := 64) rfl)) rfl
theorem mk_3_65 : Cond.methodLink RX5 49 yX2_shift ∈ TBL := tb_mem (tb_3 (List.mem_of_getElem? (i := 65) rfl)) rfl
theorem mk_3_66 : Cond.instanceMethod yX2_shift ∈ TBL := tb_mem (tb_3 (List.mem_of_getElem? (i := 66) rfl)) rfl
theorem mk_3_67 : Cond.selects RX2 yX2_shift yX2_shift ∈ TBL := tb_mem (tb_3 (List.mem_of_getElem? (i := 67) rfl)) rfl
theorem mk_3_68 : Cond.code yX2_shift cX2_shift 5 none ∈ TBL := tb_mem (tb_3 (List.mem_of_getElem? (i := 68) rfl)) rfl
theorem mk_3_69 : Cond.methodLink RX2 23 yX2_holds ∈ TBL := tb_mem (tb_3 (List.mem_of_getElem? (i := 69) rfl)) rfl
theorem mk_3_70 : Cond.instanceMethod yX2_holds ∈ TBL := tb_mem (tb_3 (List.mem_of_getElem? (i := 70) rfl)) rfl
theorem mk_3_71 : Cond.selects RX2 yX2_holds yX2_holds ∈ TBL := tb_mem (tb_3 (List.mem_of_getElem? (i := 71) rfl)) rfl
theorem mk_3_72 : Cond.code yX2_holds cX2_holds 2 (some .boolean) ∈ TBL := tb_mem (tb_3 (List.mem_of_getElem? (i := 72) rfl)) rfl
theorem mk_3_73 : Cond.methodLink RX1 84 yX1_nextDone ∈ TBL := tb_mem (tb_3 (List.mem_of_getElem? (i := 73) rfl)) rfl
theorem mk_3_75 : Cond.instanceMethod yX1_nextDone ∈ TBL := tb_mem (tb_3 (List.mem_of_getElem? (i := 75) rfl)) rfl
theorem mk_3_76 : Cond.code yX1_nextDone cX1_nextDone 5 (some .int) ∈ TBL := tb_mem (tb_3 (List.mem_of_getElem? (i := 76) rfl)) rfl
theorem mk_3_77 : Cond.methodLink RX1 100 yJ9_min_7cf53 ∈ TBL := tb_mem (tb_3 (List.mem_of_getElem? (i := 77) rfl)) rfl
theorem mk_3_78 : Cond.static yJ9_min_7cf53 ∈ TBL := tb_mem (tb_3 (List.mem_of_getElem? (i := 78) rfl)) rfl
theorem mk_3_79 : Cond.code yJ9_min_7cf53 cJ9_min_7cf53 2 (some .int) ∈ TBL := tb_mem (tb_3 (List.mem_of_getElem? (i := 79) rfl)) rfl
theorem mk_3_80 : Cond.methodLink RX1 88 yJ9_max_7cf53 ∈ TBL := tb_mem (tb_3 (List.mem_of_getElem? (i := 80) rfl)) rfl
theorem mk_3_81 : Cond.static yJ9_max_7cf53 ∈ TBL := tb_mem (tb_3 (List.mem_of_getElem? (i := 81) rfl)) rfl
theorem mk_3_82 : Cond.code yJ9_max_7cf53 cJ9_max_7cf53 2 (some .int) ∈ TBL := tb_mem (tb_3 (List.mem_of_getElem? (i := 82) rfl)) rfl
theorem mk_3_83 : Cond.methodLink RX1 94 yX1_waitOn ∈ TBL := tb_mem (tb_3 (List.mem_of_getElem? (i := 83) rfl)) rfl
theorem mk_3_85 : Cond.instanceMethod yX1_waitOn ∈ TBL := tb_mem (tb_3 (List.mem_of_getElem? (i := 85) rfl)) rfl
theorem mk_3_86 : Cond.code yX1_waitOn cX1_waitOn 4 none ∈ TBL := tb_mem (tb_3 (List.mem_of_getElem? (i := 86) rfl)) rfl
theorem mk_3_87 : Cond.methodLink RX9 226 yX5_copy ∈ TBL := tb_mem (tb_3 (List.mem_of_getElem? (i := 87) rfl)) rfl
theorem mk_3_88 : Cond.methodLink RX9 231 yX2_sum ∈ TBL := tb_mem (tb_3 (List.mem_of_getElem? (i := 88) rfl)) rfl
theorem mk_3_89 : Cond.methodLink RL 166 yX9_pace ∈ TBL := tb_mem (tb_3 (List.mem_of_getElem? (i := 89) rfl)) rfl
theorem mk_3_90 : Cond.instanceMethod yX9_pace ∈ TBL := tb_mem (tb_3 (List.mem_of_getElem? (i := 90) rfl)) rfl
theorem mk_3_91 : Cond.selects RX9 yX9_pace yX9_pace ∈ TBL := tb_mem (tb_3 (List.mem_of_getElem? (i := 91) rfl)) rfl
theorem mk_3_92 : Cond.code yX9_pace cX9_pace 3 (some .int) ∈ TBL := tb_mem (tb_3 (List.mem_of_getElem? (i := 92) rfl)) rfl
theorem mk_3_93 : Cond.methodLink RX9 143 yX2_at ∈ TBL := tb_mem (tb_3 (List.mem_of_getElem? (i := 93) rfl)) rfl
theorem mk_3_94 : Cond.methodLink RL 176 yX9_sort ∈ TBL := tb_mem (tb_3 (List.mem_of_getElem? (i := 94) rfl)) rfl
theorem mk_3_95 : Cond.instanceMethod yX9_sort ∈ TBL := tb_mem (tb_3 (List.mem_of_getElem? (i := 95) rfl)) rfl
theorem mk_3_96 : Cond.selects RX9 yX9_sort yX9_sort ∈ TBL := tb_mem (tb_3 (List.mem_of_getElem? (i := 96) rfl)) rfl
theorem mk_3_97 : Cond.code yX9_sort cX9_sort 3 (some .int) ∈ TBL := tb_mem (tb_3 (List.mem_of_getElem? (i := 97) rfl)) rfl
theorem mk_3_98 : Cond.methodLink RX9 178 yX5_offOwn ∈ TBL := tb_mem (tb_3 (List.mem_of_getElem? (i := 98) rfl)) rfl
theorem mk_3_99 : Cond.instanceMethod yX5_offOwn ∈ TBL := tb_mem (tb_3 (List.mem_of_getElem? (i := 99) rfl)) rfl
theorem mk_3_100 : Cond.selects RX5 yX5_offOwn yX5_offOwn ∈ TBL := tb_mem (tb_3 (List.mem_of_getElem? (i := 100) rfl)) rfl
theorem mk_3_101 : Cond.code yX5_offOwn cX5_offOwn 3 (some .int) ∈ TBL := tb_mem (tb_3 (List.mem_of_getElem? (i := 101) rfl)) rfl
theorem mk_3_102 : Cond.methodLink RX5 56 yX5_lies ∈ TBL := tb_mem (tb_3 (List.mem_of_getElem? (i := 102) rfl)) rfl
theorem mk_3_103 : Cond.instanceMethod yX5_lies ∈ TBL := tb_mem (tb_3 (List.mem_of_getElem? (i := 103) rfl)) rfl
theorem mk_3_104 : Cond.selects RX5 yX5_lies yX5_lies ∈ TBL := tb_mem (tb_3 (List.mem_of_getElem? (i := 104) rfl)) rfl
theorem mk_3_105 : Cond.code yX5_lies cX5_lies 2 (some .boolean) ∈ TBL := tb_mem (tb_3 (List.mem_of_getElem? (i := 105) rfl)) rfl
theorem mk_3_106 : Cond.methodLink RX5 60 yX7_ofSleeve ∈ TBL := tb_mem (tb_3 (List.mem_of_getElem? (i := 106) rfl)) rfl
theorem mk_3_107 : Cond.methodLink RX5 64 yJ9_abs_0f7a4 ∈ TBL := tb_mem (tb_3 (List.mem_of_getElem? (i := 107) rfl)) rfl
theorem mk_3_108 : Cond.static yJ9_abs_0f7a4 ∈ TBL := tb_mem (tb_3 (List.mem_of_getElem? (i := 108) rfl)) rfl
theorem mk_3_109 : Cond.code yJ9_abs_0f7a4 cJ9_abs_0f7a4 1 (some .int) ∈ TBL := tb_mem (tb_3 (List.mem_of_getElem? (i := 109) rfl)) rfl
theorem mk_3_110 : Cond.methodLink RX9 171 yX7_ofSleeve ∈ TBL := tb_mem (tb_3 (List.mem_of_getElem? (i := 110) rfl)) rfl
theorem mk_3_111 : Cond.methodLink RX9 202 yX5_putBehind ∈ TBL := tb_mem (tb_3 (List.mem_of_getElem? (i := 111) rfl)) rfl
theorem mk_3_112 : Cond.methodLink RL 180 yX9_off ∈ TBL := tb_mem (tb_3 (List.mem_of_getElem? (i := 112) rfl)) rfl
theorem mk_3_113 : Cond.instanceMethod yX9_off ∈ TBL := tb_mem (tb_3 (List.mem_of_getElem? (i := 113) rfl)) rfl
theorem mk_3_114 : Cond.selects RX9 yX9_off yX9_off ∈ TBL := tb_mem (tb_3 (List.mem_of_getElem? (i := 114) rfl)) rfl
theorem mk_3_115 : Cond.code yX9_off cX9_off 1 (some .int) ∈ TBL := tb_mem (tb_3 (List.mem_of_getElem? (i := 115) rfl)) rfl
theorem mk_3_116 : Cond.methodLink RX9 243 yX5_allOff ∈ TBL := tb_mem (tb_3 (List.mem_of_getElem? (i := 116) rfl)) rfl
theorem mk_3_117 : Cond.instanceMethod yX5_allOff ∈ TBL := tb_mem (tb_3 (List.mem_of_getElem? (i := 117) rfl)) rfl
theorem mk_3_118 : Cond.selects RX5 yX5_allOff yX5_allOff ∈ TBL := tb_mem (tb_3 (List.mem_of_getElem? (i := 118) rfl)) rfl
theorem mk_3_119 : Cond.code yX5_allOff cX5_allOff 4 (some .int) ∈ TBL := tb_mem (tb_3 (List.mem_of_getElem? (i := 119) rfl)) rfl
theorem mk_3_120 : Cond.methodLink RX5 73 yX5_offOwn ∈ TBL := tb_mem (tb_3 (List.mem_of_getElem? (i := 120) rfl)) rfl
theorem mk_3_121 : Cond.methodLink RL 187 yX9_changes ∈ TBL := tb_mem (tb_3 (List.mem_of_getElem? (i := 121) rfl)) rfl
theorem mk_3_122 : Cond.instanceMethod yX9_changes ∈ TBL := tb_mem (tb_3 (List.mem_of_getElem? (i := 122) rfl)) rfl
theorem mk_3_123 : Cond.selects RX9 yX9_changes yX9_changes ∈ TBL := tb_mem (tb_3 (List.mem_of_getElem? (i := 123) rfl)) rfl
theorem mk_3_124 : Cond.code yX9_changes cX9_changes 1 (some .int) ∈ TBL := tb_mem (tb_3 (List.mem_of_getElem? (i := 124) rfl)) rfl
theorem mk_3_125 : Cond.methodLink RX9 304 yX6_list ∈ TBL := tb_mem (tb_3 (List.mem_of_getElem? (i := 125) rfl)) rfl
theorem mk_3_126 : Cond.instanceMethod yX6_list ∈ TBL := tb_mem (tb_3 (List.mem_of_getElem? (i := 126) rfl)) rfl
theorem mk_3_127 : Cond.selects RX6 yX6_list yX6_list ∈ TBL := tb_mem (tb_3 (List.mem_of_getElem? (i := 127) rfl)) rfl
theorem mk_3_128 : Cond.code yX6_list cX6_list 4 (some .int) ∈ TBL := tb_mem (tb_3 (List.mem_of_getElem? (i := 128) rfl)) rfl
theorem mk_3_129 : Cond.methodLink RX6 30 yX2_copy ∈ TBL := tb_mem (tb_3 (List.mem_of_getElem? (i := 129) rfl)) rfl
theorem mk_3_130 : Cond.methodLink RX6 34 yX2_at ∈ TBL := tb_mem (tb_3 (List.mem_of_getElem? (i := 130) rfl)) rfl
theorem mk_3_131 : Cond.methodLink RX6 38 yX2_placeOf ∈ TBL := tb_mem (tb_3 (List.mem_of_getElem? (i := 131) rfl)) rfl
theorem mk_3_132 : Cond.methodLink RX6 41 yX2_swap ∈ TBL := tb_mem (tb_3 (List.mem_of_getElem? (i := 132) rfl)) rfl
theorem mk_3_133 : Cond.instanceMethod yX2_swap ∈ TBL := tb_mem (tb_3 (List.mem_of_getElem? (i := 133) rfl)) rfl
theorem mk_3_134 : Cond.selects RX2 yX2_swap yX2_swap ∈ TBL := tb_mem (tb_3 (List.mem_of_getElem? (i := 134) rfl)) rfl
theorem mk_3_135 : Cond.code yX2_swap cX2_swap 4 none ∈ TBL := tb_mem (tb_3 (List.mem_of_getElem? (i := 135) rfl)) rfl
theorem mk_3_136 : Cond.methodLink RX6 45 yX2_put ∈ TBL := tb_mem (tb_3 (List.mem_of_getElem? (i := 136) rfl)) rfl
theorem mk_3_137 : Cond.methodLink RL 191 yX9_changed ∈ TBL := tb_mem (tb_3 (List.mem_of_getElem? (i := 137) rfl)) rfl
theorem mk_3_138 : Cond.instanceMethod yX9_changed ∈ TBL := tb_mem (tb_3 (List.mem_of_getElem? (i := 138) rfl)) rfl
theorem mk_3_139 : Cond.selects RX9 yX9_changed yX9_changed ∈ TBL := tb_mem (tb_3 (List.mem_of_getElem? (i := 139) rfl)) rfl
theorem mk_3_140 : Cond.code yX9_changed cX9_changed 3 (some .int) ∈ TBL := tb_mem (tb_3 (List.mem_of_getElem? (i := 140) rfl)) rfl
theorem mk_3_141 : Cond.methodLink RL 195 yX9_divider ∈ TBL := tb_mem (tb_3 (List.mem_of_getElem? (i := 141) rfl)) rfl
theorem mk_3_142 : Cond.instanceMethod yX9_divider ∈ TBL := tb_mem (tb_3 (List.mem_of_getElem? (i := 142) rfl)) rfl
theorem mk_3_143 : Cond.selects RX9 yX9_divider yX9_divider ∈ TBL := tb_mem (tb_3 (List.mem_of_getElem? (i := 143) rfl)) rfl
theorem mk_3_144 : Cond.code yX9_divider cX9_divider 2 (some .int) ∈ TBL := tb_mem (tb_3 (List.mem_of_getElem? (i := 144) rfl)) rfl
theorem mk_3_145 : Cond.methodLink RX9 276 yX7_hasCrate ∈ TBL := tb_mem (tb_3 (List.mem_of_getElem? (i := 145) rfl)) rfl
theorem mk_3_146 : Cond.methodLink RL 206 yX9_image ∈ TBL := tb_mem (tb_3 (List.mem_of_getElem? (i := 146) rfl)) rfl
theorem mk_3_147 : Cond.instanceMethod yX9_image ∈ TBL := tb_mem (tb_3 (List.mem_of_getElem? (i := 147) rfl)) rfl
theorem mk_3_148 : Cond.selects RX9 yX9_image yX9_image ∈ TBL := tb_mem (tb_3 (List.mem_of_getElem? (i := 148) rfl)) rfl
theorem mk_3_149 : Cond.code yX9_image cX9_image 2 (some .int) ∈ TBL := tb_mem (tb_3 (List.mem_of_getElem? (i := 149) rfl)) rfl
theorem mk_3_150 : Cond.methodLink RX9 332 yX9_imageAt ∈ TBL := tb_mem (tb_3 (List.mem_of_getElem? (i := 150) rfl)) rfl
theorem mk_3_152 : Cond.instanceMethod yX9_imageAt ∈ TBL := tb_mem (tb_3 (List.mem_of_getElem? (i := 152) rfl)) rfl
theorem mk_3_153 : Cond.code yX9_imageAt cX9_imageAt 2 (some (.object "FlickedCrates$Stock")) ∈ TBL := tb_mem (tb_3 (List.mem_of_getElem? (i := 153) rfl)) rfl
theorem mk_3_154 : Cond.methodLink RL 210 yX9_restore ∈ TBL := tb_mem (tb_3 (List.mem_of_getElem? (i := 154) rfl)) rfl
theorem mk_3_155 : Cond.instanceMethod yX9_restore ∈ TBL := tb_mem (tb_3 (List.mem_of_getElem? (i := 155) rfl)) rfl
theorem mk_3_156 : Cond.selects RX9 yX9_restore yX9_restore ∈ TBL := tb_mem (tb_3 (List.mem_of_getElem? (i := 156) rfl)) rfl
theorem mk_3_157 : Cond.code yX9_restore cX9_restore 2 (some .int) ∈ TBL := tb_mem (tb_3 (List.mem_of_getElem? (i := 157) rfl)) rfl
theorem mk_3_158 : Cond.methodLink RL 214 yX9_status ∈ TBL := tb_mem (tb_3 (List.mem_of_getElem? (i := 158) rfl)) rfl
theorem mk_3_159 : Cond.instanceMethod yX9_status ∈ TBL := tb_mem (tb_3 (List.mem_of_getElem? (i := 159) rfl)) rfl
theorem mk_3_160 : Cond.selects RX9 yX9_status yX9_status ∈ TBL := tb_mem (tb_3 (List.mem_of_getElem? (i := 160) rfl)) rfl
theorem mk_3_161 : Cond.code yX9_status cX9_status 2 (some .int) ∈ TBL := tb_mem (tb_3 (List.mem_of_getElem? (i := 161) rfl)) rfl
theorem mk_3_162 : Cond.methodLink RL 218 yX9_count ∈ TBL := tb_mem (tb_3 (List.mem_of_getElem? (i := 162) rfl)) rfl
theorem mk_3_163 : Cond.instanceMethod yX9_count ∈ TBL := tb_mem (tb_3 (List.mem_of_getElem? (i := 163) rfl)) rfl
theorem mk_3_164 : Cond.selects RX9 yX9_count yX9_count ∈ TBL := tb_mem (tb_3 (List.mem_of_getElem? (i := 164) rfl)) rfl
theorem mk_3_165 : Cond.code yX9_count cX9_count 2 (some .int) ∈ TBL := tb_mem (tb_3 (List.mem_of_getElem? (i := 165) rfl)) rfl
theorem mk_3_166 : Cond.methodLink RX9 336 yX5_sold ∈ TBL := tb_mem (tb_3 (List.mem_of_getElem? (i := 166) rfl)) rfl
theorem mk_3_167 : Cond.instanceMethod yX5_sold ∈ TBL := tb_mem (tb_3 (List.mem_of_getElem? (i := 167) rfl)) rfl
theorem mk_3_168 : Cond.selects RX5 yX5_sold yX5_sold ∈ TBL := tb_mem (tb_3 (List.mem_of_getElem? (i := 168) rfl)) rfl
theorem mk_3_169 : Cond.code yX5_sold cX5_sold 4 (some .int) ∈ TBL := tb_mem (tb_3 (List.mem_of_getElem? (i := 169) rfl)) rfl
theorem mk_3_170 : Cond.methodLink RL 97 yL_shop ∈ TBL := tb_mem (tb_3 (List.mem_of_getElem? (i := 170) rfl)) rfl
theorem mk_3_171 : Cond.static yL_shop ∈ TBL := tb_mem (tb_3 (List.mem_of_getElem? (i := 171) rfl)) rfl
theorem mk_3_172 : Cond.codeWith yL_shop cL_shop 4 (some .int) [(0, 9, 12, 13)] ∈ TBL := tb_mem (tb_3 (List.mem_of_getElem? (i := 172) rfl)) rfl
theorem mk_3_173 : Cond.classLink RL 13 "java/lang/IllegalArgumentException" ∈ TBL := tb_mem (tb_3 (List.mem_of_getElem? (i := 173) rfl)) rfl
theorem mk_3_174 : Cond.methodLink RL 7 yX9_shop ∈ TBL := tb_mem (tb_3 (List.mem_of_getElem? (i := 174) rfl)) rfl
theorem mk_3_175 : Cond.instanceMethod yX9_shop ∈ TBL := tb_mem (tb_3 (List.mem_of_getElem? (i := 175) rfl)) rfl
theorem mk_3_176 : Cond.selects RX9 yX9_shop yX9_shop ∈ TBL := tb_mem (tb_3 (List.mem_of_getElem? (i := 176) rfl)) rfl
theorem mk_3_177 : Cond.code yX9_shop cX9_shop 3 (some .int) ∈ TBL := tb_mem (tb_3 (List.mem_of_getElem? (i := 177) rfl)) rfl
theorem mk_3_178 : Cond.methodLink RX9 111 yX9_need ∈ TBL := tb_mem (tb_3 (List.mem_of_getElem? (i := 178) rfl)) rfl
theorem mk_3_180 : Cond.instanceMethod yX9_need ∈ TBL := tb_mem (tb_3 (List.mem_of_getElem? (i := 180) rfl)) rfl
theorem mk_3_181 : Cond.code yX9_need cX9_need 2 none ∈ TBL := tb_mem (tb_3 (List.mem_of_getElem? (i := 181) rfl)) rfl
theorem mk_3_182 : Cond.methodLink RX9 339 yX2_add ∈ TBL := tb_mem (tb_3 (List.mem_of_getElem? (i := 182) rfl)) rfl
theorem mk_3_183 : Cond.classLink RX9 356 "java/lang/IllegalArgumentException" ∈ TBL := tb_mem (tb_3 (List.mem_of_getElem? (i := 183) rfl)) rfl
theorem mk_3_184 : Cond.instantiable "java/lang/IllegalArgumentException" 6 ∈ TBL := tb_mem (tb_3 (List.mem_of_getElem? (i := 184) rfl)) rfl
theorem mk_3_192 : Cond.selects "java/lang/IllegalArgumentException" ⟨"java/lang/Throwable", "fillInStackTrace", "(I)Ljava/lang/Throwable;"⟩ ⟨"java/lang/Throwable", "fillInStackTrace", "(I)Ljava/lang/Throwable;"⟩ ∈ TBL := tb_mem (tb_3 (List.mem_of_getElem? (i := 192) rfl)) rfl
theorem mk_3_193 : Cond.selects "java/lang/IllegalArgumentException" ⟨"java/lang/Throwable", "fillInStackTrace", "()Ljava/lang/Throwable;"⟩ ⟨"java/lang/Throwable", "fillInStackTrace", "()Ljava/lang/Throwable;"⟩ ∈ TBL := tb_mem (tb_3 (List.mem_of_getElem? (i := 193) rfl)) rfl
theorem mk_3_194 : Cond.lays "java/lang/IllegalArgumentException" "java/lang/Throwable" "cause" "Ljava/lang/Throwable;" ∈ TBL := tb_mem (tb_3 (List.mem_of_getElem? (i := 194) rfl)) rfl
theorem mk_3_196 : Cond.lays "java/lang/IllegalArgumentException" "java/lang/Throwable" "stackTrace" "[Ljava/lang/StackTraceElement;" ∈ TBL := tb_mem (tb_3 (List.mem_of_getElem? (i := 196) rfl)) rfl
theorem mk_3_198 : Cond.lays "java/lang/IllegalArgumentException" "java/lang/Throwable" "suppressedExceptions" "Ljava/util/List;" ∈ TBL := tb_mem (tb_3 (List.mem_of_getElem? (i := 198) rfl)) rfl
theorem mk_3_200 : Cond.lays "java/lang/IllegalArgumentException" "java/lang/Throwable" "detailMessage" "Ljava/lang/String;" ∈ TBL := tb_mem (tb_3 (List.mem_of_getElem? (i := 200) rfl)) rfl
theorem mk_3_202 : Cond.lays "java/lang/IllegalArgumentException" "java/lang/Throwable" "backtrace" "Ljava/lang/Object;" ∈ TBL := tb_mem (tb_3 (List.mem_of_getElem? (i := 202) rfl)) rfl
theorem mk_3_204 : Cond.fieldLink "java/lang/Throwable" 198 "java/lang/Throwable" "backtrace" "Ljava/lang/Object;" ∈ TBL := tb_mem (tb_3 (List.mem_of_getElem? (i := 204) rfl)) rfl
theorem mk_3_206 : Cond.instanceMethod ⟨"java/lang/Throwable", "<init>", "()V"⟩ ∈ TBL := tb_mem (tb_3 (List.mem_of_getElem? (i := 206) rfl)) rfl
theorem mk_3_207 : Cond.code ⟨"java/lang/Throwable", "<init>", "()V"⟩ prog_26_method_1_code 1 none ∈ TBL := tb_mem (tb_3 (List.mem_of_getElem? (i := 207) rfl)) rfl
theorem mk_3_208 : Cond.methodLink "java/lang/Throwable" 1 ⟨"java/lang/Object", "<init>", "()V"⟩ ∈ TBL := tb_mem (tb_3 (List.mem_of_getElem? (i := 208) rfl)) rfl
theorem mk_3_209 : Cond.fieldLink "java/lang/Throwable" 13 "java/lang/Throwable" "UNASSIGNED_STACK" "[Ljava/lang/StackTraceElement;" ∈ TBL := tb_mem (tb_3 (List.mem_of_getElem? (i := 209) rfl)) rfl
theorem mk_3_211 : Cond.fieldLink "java/lang/Throwable" 20 "java/lang/Throwable" "SUPPRESSED_SENTINEL" "Ljava/util/List;" ∈ TBL := tb_mem (tb_3 (List.mem_of_getElem? (i := 211) rfl)) rfl
theorem mk_3_213 : Cond.methodLink "java/lang/Throwable" 27 ⟨"java/lang/Throwable", "fillInStackTrace", "()Ljava/lang/Throwable;"⟩ ∈ TBL := tb_mem (tb_3 (List.mem_of_getElem? (i := 213) rfl)) rfl
theorem mk_3_214 : Cond.instanceMethod ⟨"java/lang/Throwable", "fillInStackTrace", "()Ljava/lang/Throwable;"⟩ ∈ TBL := tb_mem (tb_3 (List.mem_of_getElem? (i := 214) rfl)) rfl
theorem mk_3_216 : Cond.selects "java/lang/IllegalStateException" ⟨"java/lang/Throwable", "fillInStackTrace", "()Ljava/lang/Throwable;"⟩ ⟨"java/lang/Throwable", "fillInStackTrace", "()Ljava/lang/Throwable;"⟩ ∈ TBL := tb_mem (tb_3 (List.mem_of_getElem? (i := 216) rfl)) rfl
theorem mk_3_217 : Cond.selects "java/lang/IndexOutOfBoundsException" ⟨"java/lang/Throwable", "fillInStackTrace", "()Ljava/lang/Throwable;"⟩ ⟨"java/lang/Throwable", "fillInStackTrace", "()Ljava/lang/Throwable;"⟩ ∈ TBL := tb_mem (tb_3 (List.mem_of_getElem? (i := 217) rfl)) rfl
theorem mk_3_218 : Cond.selects "java/util/NoSuchElementException" ⟨"java/lang/Throwable", "fillInStackTrace", "()Ljava/lang/Throwable;"⟩ ⟨"java/lang/Throwable", "fillInStackTrace", "()Ljava/lang/Throwable;"⟩ ∈ TBL := tb_mem (tb_3 (List.mem_of_getElem? (i := 218) rfl)) rfl
theorem mk_3_220 : Cond.methodLink "java/lang/Throwable" 202 ⟨"java/lang/Throwable", "fillInStackTrace", "(I)Ljava/lang/Throwable;"⟩ ∈ TBL := tb_mem (tb_3 (List.mem_of_getElem? (i := 220) rfl)) rfl
theorem mk_3_222 : Cond.instanceMethod ⟨"java/lang/Throwable", "fillInStackTrace", "(I)Ljava/lang/Throwable;"⟩ ∈ TBL := tb_mem (tb_3 (List.mem_of_getElem? (i := 222) rfl)) rfl
theorem mk_3_223 : Cond.instantiable "java/lang/Throwable" 6 ∈ TBL := tb_mem (tb_3 (List.mem_of_getElem? (i := 223) rfl)) rfl
theorem mk_3_226 : Cond.methodLink RX9 360 ⟨"java/lang/IllegalArgumentException", "<init>", "(Ljava/lang/String;)V"⟩ ∈ TBL := tb_mem (tb_3 (List.mem_of_getElem? (i := 226) rfl)) rfl
theorem mk_3_227 : Cond.instanceMethod ⟨"java/lang/IllegalArgumentException", "<init>", "(Ljava/lang/String;)V"⟩ ∈ TBL := tb_mem (tb_3 (List.mem_of_getElem? (i := 227) rfl)) rfl
theorem mk_3_228 : Cond.code ⟨"java/lang/IllegalArgumentException", "<init>", "(Ljava/lang/String;)V"⟩ prog_17_method_2_code 2 none ∈ TBL := tb_mem (tb_3 (List.mem_of_getElem? (i := 228) rfl)) rfl
theorem mk_3_229 : Cond.methodLink "java/lang/IllegalArgumentException" 7 ⟨"java/lang/RuntimeException", "<init>", "(Ljava/lang/String;)V"⟩ ∈ TBL := tb_mem (tb_3 (List.mem_of_getElem? (i := 229) rfl)) rfl
theorem mk_3_230 : Cond.instanceMethod ⟨"java/lang/RuntimeException", "<init>", "(Ljava/lang/String;)V"⟩ ∈ TBL := tb_mem (tb_3 (List.mem_of_getElem? (i := 230) rfl)) rfl
theorem mk_3_231 : Cond.code ⟨"java/lang/RuntimeException", "<init>", "(Ljava/lang/String;)V"⟩ prog_22_method_2_code 2 none ∈ TBL := tb_mem (tb_3 (List.mem_of_getElem? (i := 231) rfl)) rfl
theorem mk_3_232 : Cond.methodLink "java/lang/RuntimeException" 7 ⟨"java/lang/Exception", "<init>", "(Ljava/lang/String;)V"⟩ ∈ TBL := tb_mem (tb_3 (List.mem_of_getElem? (i := 232) rfl)) rfl
theorem mk_3_233 : Cond.instanceMethod ⟨"java/lang/Exception", "<init>", "(Ljava/lang/String;)V"⟩ ∈ TBL := tb_mem (tb_3 (List.mem_of_getElem? (i := 233) rfl)) rfl
theorem mk_3_234 : Cond.code ⟨"java/lang/Exception", "<init>", "(Ljava/lang/String;)V"⟩ prog_16_method_2_code 2 none ∈ TBL := tb_mem (tb_3 (List.mem_of_getElem? (i := 234) rfl)) rfl
theorem mk_3_235 : Cond.methodLink "java/lang/Exception" 7 ⟨"java/lang/Throwable", "<init>", "(Ljava/lang/String;)V"⟩ ∈ TBL := tb_mem (tb_3 (List.mem_of_getElem? (i := 235) rfl)) rfl
theorem mk_3_236 : Cond.instanceMethod ⟨"java/lang/Throwable", "<init>", "(Ljava/lang/String;)V"⟩ ∈ TBL := tb_mem (tb_3 (List.mem_of_getElem? (i := 236) rfl)) rfl
theorem mk_3_237 : Cond.code ⟨"java/lang/Throwable", "<init>", "(Ljava/lang/String;)V"⟩ prog_26_method_2_code 2 none ∈ TBL := tb_mem (tb_3 (List.mem_of_getElem? (i := 237) rfl)) rfl
theorem mk_3_239 : Cond.fieldLink "java/lang/Throwable" 31 "java/lang/Throwable" "detailMessage" "Ljava/lang/String;" ∈ TBL := tb_mem (tb_3 (List.mem_of_getElem? (i := 239) rfl)) rfl
theorem mk_4_0 : Cond.fieldLink "java/lang/Throwable" 7 "java/lang/Throwable" "cause" "Ljava/lang/Throwable;" ∈ TBL := tb_mem (tb_4 (List.mem_of_getElem? (i := 0) rfl)) rfl
theorem mk_4_1 : Cond.fieldLink "java/lang/Throwable" 17 "java/lang/Throwable" "stackTrace" "[Ljava/lang/StackTraceElement;" ∈ TBL := tb_mem (tb_4 (List.mem_of_getElem? (i := 1) rfl)) rfl
theorem mk_4_2 : Cond.fieldLink "java/lang/Throwable" 24 "java/lang/Throwable" "suppressedExceptions" "Ljava/util/List;" ∈ TBL := tb_mem (tb_4 (List.mem_of_getElem? (i := 2) rfl)) rfl
theorem mk_4_7 : Cond.lays "java/lang/IllegalArgumentException" "java/lang/Throwable" "depth" "I" ∈ TBL := tb_mem (tb_4 (List.mem_of_getElem? (i := 7) rfl)) rfl
theorem mk_4_11 : Cond.arrayClass .byte ∈ TBL := tb_mem (tb_4 (List.mem_of_getElem? (i := 11) rfl)) rfl
theorem mk_4_12 : Cond.methodLink RX9 115 yX3_read ∈ TBL := tb_mem (tb_4 (List.mem_of_getElem? (i := 12) rfl)) rfl
theorem mk_4_13 : Cond.instanceMethod yX3_read ∈ TBL := tb_mem (tb_4 (List.mem_of_getElem? (i := 13) rfl)) rfl
theorem mk_4_14 : Cond.selects RX3 yX3_read yX3_read ∈ TBL := tb_mem (tb_4 (List.mem_of_getElem? (i := 14) rfl)) rfl
theorem mk_4_15 : Cond.code yX3_read cX3_read 3 (some .int) ∈ TBL := tb_mem (tb_4 (List.mem_of_getElem? (i := 15) rfl)) rfl
theorem mk_4_16 : Cond.methodLink RX3 45 yX7_clear ∈ TBL := tb_mem (tb_4 (List.mem_of_getElem? (i := 16) rfl)) rfl
theorem mk_4_17 : Cond.methodLink RX3 48 yX3_skipBlanks ∈ TBL := tb_mem (tb_4 (List.mem_of_getElem? (i := 17) rfl)) rfl
theorem mk_4_19 : Cond.instanceMethod yX3_skipBlanks ∈ TBL := tb_mem (tb_4 (List.mem_of_getElem? (i := 19) rfl)) rfl
theorem mk_4_20 : Cond.code yX3_skipBlanks cX3_skipBlanks 1 none ∈ TBL := tb_mem (tb_4 (List.mem_of_getElem? (i := 20) rfl)) rfl
theorem mk_4_21 : Cond.methodLink RX3 109 yX2_at ∈ TBL := tb_mem (tb_4 (List.mem_of_getElem? (i := 21) rfl)) rfl
theorem mk_4_22 : Cond.methodLink RX3 51 yX3_readClause ∈ TBL := tb_mem (tb_4 (List.mem_of_getElem? (i := 22) rfl)) rfl
theorem mk_4_24 : Cond.instanceMethod yX3_readClause ∈ TBL := tb_mem (tb_4 (List.mem_of_getElem? (i := 24) rfl)) rfl
theorem mk_4_25 : Cond.code yX3_readClause cX3_readClause 4 none ∈ TBL := tb_mem (tb_4 (List.mem_of_getElem? (i := 25) rfl)) rfl
theorem mk_4_26 : Cond.methodLink RX3 54 yX3_readWord ∈ TBL := tb_mem (tb_4 (List.mem_of_getElem? (i := 26) rfl)) rfl
theorem mk_4_28 : Cond.instanceMethod yX3_readWord ∈ TBL := tb_mem (tb_4 (List.mem_of_getElem? (i := 28) rfl)) rfl
theorem mk_4_29 : Cond.code yX3_readWord cX3_readWord 3 (some .int) ∈ TBL := tb_mem (tb_4 (List.mem_of_getElem? (i := 29) rfl)) rfl
theorem mk_4_30 : Cond.methodLink RX3 156 yX3_wordOf ∈ TBL := tb_mem (tb_4 (List.mem_of_getElem? (i := 30) rfl)) rfl
theorem mk_4_31 : Cond.static yX3_wordOf ∈ TBL := tb_mem (tb_4 (List.mem_of_getElem? (i := 31) rfl)) rfl
theorem mk_4_32 : Cond.code yX3_wordOf cX3_wordOf 1 (some (.object "java/lang/String")) ∈ TBL := tb_mem (tb_4 (List.mem_of_getElem? (i := 32) rfl)) rfl
theorem mk_4_42 : Cond.methodLink RX3 160 yX3_stands ∈ TBL := tb_mem (tb_4 (List.mem_of_getElem? (i := 42) rfl)) rfl
theorem mk_4_44 : Cond.instanceMethod yX3_stands ∈ TBL := tb_mem (tb_4 (List.mem_of_getElem? (i := 44) rfl)) rfl
theorem mk_4_45 : Cond.code yX3_stands cX3_stands 4 (some .boolean) ∈ TBL := tb_mem (tb_4 (List.mem_of_getElem? (i := 45) rfl)) rfl
theorem mk_4_46 : Cond.methodLink RX3 164 yJ0_length_8abf5 ∈ TBL := tb_mem (tb_4 (List.mem_of_getElem? (i := 46) rfl)) rfl
theorem mk_4_47 : Cond.instanceMethod yJ0_length_8abf5 ∈ TBL := tb_mem (tb_4 (List.mem_of_getElem? (i := 47) rfl)) rfl
theorem mk_4_48 : Cond.selects RJ0 yJ0_length_8abf5 yJ0_length_8abf5 ∈ TBL := tb_mem (tb_4 (List.mem_of_getElem? (i := 48) rfl)) rfl
theorem mk_4_49 : Cond.code yJ0_length_8abf5 cJ0_length_8abf5 1 (some .int) ∈ TBL := tb_mem (tb_4 (List.mem_of_getElem? (i := 49) rfl)) rfl
theorem mk_4_50 : Cond.methodLink RJ0 335 yJ0_coder_7d493 ∈ TBL := tb_mem (tb_4 (List.mem_of_getElem? (i := 50) rfl)) rfl
theorem mk_4_51 : Cond.instanceMethod yJ0_coder_7d493 ∈ TBL := tb_mem (tb_4 (List.mem_of_getElem? (i := 51) rfl)) rfl
theorem mk_4_52 : Cond.selects RJ0 yJ0_coder_7d493 yJ0_coder_7d493 ∈ TBL := tb_mem (tb_4 (List.mem_of_getElem? (i := 52) rfl)) rfl
theorem mk_4_53 : Cond.code yJ0_coder_7d493 cJ0_coder_7d493 1 (some .byte) ∈ TBL := tb_mem (tb_4 (List.mem_of_getElem? (i := 53) rfl)) rfl
theorem mk_4_54 : Cond.fieldLink RJ0 38 "java/lang/String" "COMPACT_STRINGS" "Z" ∈ TBL := tb_mem (tb_4 (List.mem_of_getElem? (i := 54) rfl)) rfl
theorem mk_4_56 : Cond.methodLink RX3 169 yJ0_charAt_5068e ∈ TBL := tb_mem (tb_4 (List.mem_of_getElem? (i := 56) rfl)) rfl
theorem mk_4_57 : Cond.instanceMethod yJ0_charAt_5068e ∈ TBL := tb_mem (tb_4 (List.mem_of_getElem? (i := 57) rfl)) rfl
theorem mk_4_58 : Cond.selects RJ0 yJ0_charAt_5068e yJ0_charAt_5068e ∈ TBL := tb_mem (tb_4 (List.mem_of_getElem? (i := 58) rfl)) rfl
theorem mk_4_59 : Cond.code yJ0_charAt_5068e cJ0_charAt_5068e 2 (some .char) ∈ TBL := tb_mem (tb_4 (List.mem_of_getElem? (i := 59) rfl)) rfl
theorem mk_4_60 : Cond.methodLink RJ0 492 yJ0_isLatin1_aae02 ∈ TBL := tb_mem (tb_4 (List.mem_of_getElem? (i := 60) rfl)) rfl
theorem mk_4_61 : Cond.instanceMethod yJ0_isLatin1_aae02 ∈ TBL := tb_mem (tb_4 (List.mem_of_getElem? (i := 61) rfl)) rfl
theorem mk_4_62 : Cond.selects RJ0 yJ0_isLatin1_aae02 yJ0_isLatin1_aae02 ∈ TBL := tb_mem (tb_4 (List.mem_of_getElem? (i := 62) rfl)) rfl
theorem mk_4_63 : Cond.code yJ0_isLatin1_aae02 cJ0_isLatin1_aae02 1 (some .boolean) ∈ TBL := tb_mem (tb_4 (List.mem_of_getElem? (i := 63) rfl)) rfl
theorem mk_4_64 : Cond.methodLink RJ0 495 yJ1_charAt_3b067 ∈ TBL := tb_mem (tb_4 (List.mem_of_getElem? (i := 64) rfl)) rfl
theorem mk_4_65 : Cond.static yJ1_charAt_3b067 ∈ TBL := tb_mem (tb_4 (List.mem_of_getElem? (i := 65) rfl)) rfl
theorem mk_4_66 : Cond.code yJ1_charAt_3b067 cJ1_charAt_3b067 2 (some .char) ∈ TBL := tb_mem (tb_4 (List.mem_of_getElem? (i := 66) rfl)) rfl
theorem mk_4_67 : Cond.methodLink RJ1 9 yJ0_checkIndex_df160 ∈ TBL := tb_mem (tb_4 (List.mem_of_getElem? (i := 67) rfl)) rfl
theorem mk_4_68 : Cond.static yJ0_checkIndex_df160 ∈ TBL := tb_mem (tb_4 (List.mem_of_getElem? (i := 68) rfl)) rfl
theorem mk_4_69 : Cond.code yJ0_checkIndex_df160 cJ0_checkIndex_df160 2 none ∈ TBL := tb_mem (tb_4 (List.mem_of_getElem? (i := 69) rfl)) rfl
theorem mk_4_70 : Cond.fieldLink RJ0 1053 "jdk/internal/util/Preconditions" "SIOOBE_FORMATTER" "Ljava/util/function/BiFunction;" ∈ TBL := tb_mem (tb_4 (List.mem_of_getElem? (i := 70) rfl)) rfl
theorem mk_4_72 : Cond.methodLink RJ0 1059 yJ3_checkIndex_8e157 ∈ TBL := tb_mem (tb_4 (List.mem_of_getElem? (i := 72) rfl)) rfl
theorem mk_4_73 : Cond.static yJ3_checkIndex_8e157 ∈ TBL := tb_mem (tb_4 (List.mem_of_getElem? (i := 73) rfl)) rfl
theorem mk_4_74 : Cond.code yJ3_checkIndex_8e157 cJ3_checkIndex_8e157 3 (some .int) ∈ TBL := tb_mem (tb_4 (List.mem_of_getElem? (i := 74) rfl)) rfl
theorem mk_4_75 : Cond.methodLink RJ0 498 yJ2_charAt_3b067 ∈ TBL := tb_mem (tb_4 (List.mem_of_getElem? (i := 75) rfl)) rfl
theorem mk_4_76 : Cond.static yJ2_charAt_3b067 ∈ TBL := tb_mem (tb_4 (List.mem_of_getElem? (i := 76) rfl)) rfl
theorem mk_4_77 : Cond.code yJ2_charAt_3b067 cJ2_charAt_3b067 2 (some .char) ∈ TBL := tb_mem (tb_4 (List.mem_of_getElem? (i := 77) rfl)) rfl
theorem mk_4_78 : Cond.methodLink RJ2 67 yJ2_checkIndex_2214a ∈ TBL := tb_mem (tb_4 (List.mem_of_getElem? (i := 78) rfl)) rfl
theorem mk_4_79 : Cond.static yJ2_checkIndex_2214a ∈ TBL := tb_mem (tb_4 (List.mem_of_getElem? (i := 79) rfl)) rfl
theorem mk_4_80 : Cond.code yJ2_checkIndex_2214a cJ2_checkIndex_2214a 2 none ∈ TBL := tb_mem (tb_4 (List.mem_of_getElem? (i := 80) rfl)) rfl
theorem mk_4_81 : Cond.methodLink RJ2 48 yJ2_length_9d52b ∈ TBL := tb_mem (tb_4 (List.mem_of_getElem? (i := 81) rfl)) rfl
theorem mk_4_82 : Cond.static yJ2_length_9d52b ∈ TBL := tb_mem (tb_4 (List.mem_of_getElem? (i := 82) rfl)) rfl
theorem mk_4_83 : Cond.code yJ2_length_9d52b cJ2_length_9d52b 1 (some .int) ∈ TBL := tb_mem (tb_4 (List.mem_of_getElem? (i := 83) rfl)) rfl
theorem mk_4_84 : Cond.methodLink RJ2 414 yJ0_checkIndex_df160 ∈ TBL := tb_mem (tb_4 (List.mem_of_getElem? (i := 84) rfl)) rfl
theorem mk_4_85 : Cond.methodLink RJ2 71 yJ2_getChar_3b067 ∈ TBL := tb_mem (tb_4 (List.mem_of_getElem? (i := 85) rfl)) rfl
theorem mk_4_86 : Cond.static yJ2_getChar_3b067 ∈ TBL := tb_mem (tb_4 (List.mem_of_getElem? (i := 86) rfl)) rfl
theorem mk_4_87 : Cond.code yJ2_getChar_3b067 cJ2_getChar_3b067 2 (some .char) ∈ TBL := tb_mem (tb_4 (List.mem_of_getElem? (i := 87) rfl)) rfl
theorem mk_4_88 : Cond.fieldLink RJ2 44 "java/lang/StringUTF16" "$assertionsDisabled" "Z" ∈ TBL := tb_mem (tb_4 (List.mem_of_getElem? (i := 88) rfl)) rfl
theorem mk_4_90 : Cond.fieldLink RJ2 59 "java/lang/StringUTF16" "HI_BYTE_SHIFT" "I" ∈ TBL := tb_mem (tb_4 (List.mem_of_getElem? (i := 90) rfl)) rfl
theorem mk_4_92 : Cond.fieldLink RJ2 63 "java/lang/StringUTF16" "LO_BYTE_SHIFT" "I" ∈ TBL := tb_mem (tb_4 (List.mem_of_getElem? (i := 92) rfl)) rfl
theorem mk_4_94 : Cond.methodLink RX3 58 yX3_faultOfWord ∈ TBL := tb_mem (tb_4 (List.mem_of_getElem? (i := 94) rfl)) rfl
theorem mk_4_96 : Cond.instanceMethod yX3_faultOfWord ∈ TBL := tb_mem (tb_4 (List.mem_of_getElem? (i := 96) rfl)) rfl
theorem mk_4_97 : Cond.code yX3_faultOfWord cX3_faultOfWord 2 (some .int) ∈ TBL := tb_mem (tb_4 (List.mem_of_getElem? (i := 97) rfl)) rfl
theorem mk_4_98 : Cond.methodLink RX3 62 yX3_blame ∈ TBL := tb_mem (tb_4 (List.mem_of_getElem? (i := 98) rfl)) rfl
theorem mk_4_100 : Cond.instanceMethod yX3_blame ∈ TBL := tb_mem (tb_4 (List.mem_of_getElem? (i := 100) rfl)) rfl
theorem mk_4_101 : Cond.code yX3_blame cX3_blame 3 none ∈ TBL := tb_mem (tb_4 (List.mem_of_getElem? (i := 101) rfl)) rfl
theorem mk_4_102 : Cond.methodLink RX3 66 yX3_readNumbers ∈ TBL := tb_mem (tb_4 (List.mem_of_getElem? (i := 102) rfl)) rfl
theorem mk_4_104 : Cond.instanceMethod yX3_readNumbers ∈ TBL := tb_mem (tb_4 (List.mem_of_getElem? (i := 104) rfl)) rfl
theorem mk_4_105 : Cond.code yX3_readNumbers cX3_readNumbers 2 none ∈ TBL := tb_mem (tb_4 (List.mem_of_getElem? (i := 105) rfl)) rfl
theorem mk_4_106 : Cond.methodLink RX3 79 yX3_readCrate ∈ TBL := tb_mem (tb_4 (List.mem_of_getElem? (i := 106) rfl)) rfl
theorem mk_4_108 : Cond.instanceMethod yX3_readCrate ∈ TBL := tb_mem (tb_4 (List.mem_of_getElem? (i := 108) rfl)) rfl
theorem mk_4_109 : Cond.code yX3_readCrate cX3_readCrate 4 none ∈ TBL := tb_mem (tb_4 (List.mem_of_getElem? (i := 109) rfl)) rfl
theorem mk_4_110 : Cond.methodLink RX3 113 yX3_number ∈ TBL := tb_mem (tb_4 (List.mem_of_getElem? (i := 110) rfl)) rfl
theorem mk_4_112 : Cond.instanceMethod yX3_number ∈ TBL := tb_mem (tb_4 (List.mem_of_getElem? (i := 112) rfl)) rfl
theorem mk_4_113 : Cond.code yX3_number cX3_number 4 (some .int) ∈ TBL := tb_mem (tb_4 (List.mem_of_getElem? (i := 113) rfl)) rfl
theorem mk_4_114 : Cond.methodLink RX3 190 yJ9_min_7cf53 ∈ TBL := tb_mem (tb_4 (List.mem_of_getElem? (i := 114) rfl)) rfl
theorem mk_4_115 : Cond.methodLink RX3 117 yX3_ends ∈ TBL := tb_mem (tb_4 (List.mem_of_getElem? (i := 115) rfl)) rfl
theorem mk_4_117 : Cond.instanceMethod yX3_ends ∈ TBL := tb_mem (tb_4 (List.mem_of_getElem? (i := 117) rfl)) rfl
theorem mk_4_118 : Cond.code yX3_ends cX3_ends 1 (some .boolean) ∈ TBL := tb_mem (tb_4 (List.mem_of_getElem? (i := 118) rfl)) rfl
theorem mk_4_119 : Cond.methodLink RX3 195 yX3_next ∈ TBL := tb_mem (tb_4 (List.mem_of_getElem? (i := 119) rfl)) rfl
theorem mk_4_121 : Cond.instanceMethod yX3_next ∈ TBL := tb_mem (tb_4 (List.mem_of_getElem? (i := 121) rfl)) rfl
theorem mk_4_122 : Cond.code yX3_next cX3_next 1 (some .int) ∈ TBL := tb_mem (tb_4 (List.mem_of_getElem? (i := 122) rfl)) rfl
theorem mk_4_123 : Cond.methodLink RX3 121 yX7_addCrate ∈ TBL := tb_mem (tb_4 (List.mem_of_getElem? (i := 123) rfl)) rfl
theorem mk_4_124 : Cond.instanceMethod yX7_addCrate ∈ TBL := tb_mem (tb_4 (List.mem_of_getElem? (i := 124) rfl)) rfl
theorem mk_4_125 : Cond.selects RX7 yX7_addCrate yX7_addCrate ∈ TBL := tb_mem (tb_4 (List.mem_of_getElem? (i := 125) rfl)) rfl
theorem mk_4_126 : Cond.code yX7_addCrate cX7_addCrate 2 none ∈ TBL := tb_mem (tb_4 (List.mem_of_getElem? (i := 126) rfl)) rfl
theorem mk_4_127 : Cond.methodLink RX3 82 yX3_readSleeve ∈ TBL := tb_mem (tb_4 (List.mem_of_getElem? (i := 127) rfl)) rfl
theorem mk_4_129 : Cond.instanceMethod yX3_readSleeve ∈ TBL := tb_mem (tb_4 (List.mem_of_getElem? (i := 129) rfl)) rfl
theorem mk_4_130 : Cond.code yX3_readSleeve cX3_readSleeve 4 none ∈ TBL := tb_mem (tb_4 (List.mem_of_getElem? (i := 130) rfl)) rfl
theorem mk_4_131 : Cond.methodLink RX3 124 yX7_addSleeve ∈ TBL := tb_mem (tb_4 (List.mem_of_getElem? (i := 131) rfl)) rfl
theorem mk_4_132 : Cond.instanceMethod yX7_addSleeve ∈ TBL := tb_mem (tb_4 (List.mem_of_getElem? (i := 132) rfl)) rfl
theorem mk_4_133 : Cond.selects RX7 yX7_addSleeve yX7_addSleeve ∈ TBL := tb_mem (tb_4 (List.mem_of_getElem? (i := 133) rfl)) rfl
theorem mk_4_134 : Cond.code yX7_addSleeve cX7_addSleeve 6 none ∈ TBL := tb_mem (tb_4 (List.mem_of_getElem? (i := 134) rfl)) rfl
theorem mk_4_135 : Cond.methodLink RX7 69 yX7_ownCrate ∈ TBL := tb_mem (tb_4 (List.mem_of_getElem? (i := 135) rfl)) rfl
theorem mk_4_137 : Cond.instanceMethod yX7_ownCrate ∈ TBL := tb_mem (tb_4 (List.mem_of_getElem? (i := 137) rfl)) rfl
theorem mk_4_138 : Cond.code yX7_ownCrate cX7_ownCrate 4 (some .int) ∈ TBL := tb_mem (tb_4 (List.mem_of_getElem? (i := 138) rfl)) rfl
theorem mk_4_139 : Cond.methodLink RX3 85 yX3_readLies ∈ TBL := tb_mem (tb_4 (List.mem_of_getElem? (i := 139) rfl)) rfl
theorem mk_4_141 : Cond.instanceMethod yX3_readLies ∈ TBL := tb_mem (tb_4 (List.mem_of_getElem? (i := 141) rfl)) rfl
theorem mk_4_142 : Cond.code yX3_readLies cX3_readLies 3 none ∈ TBL := tb_mem (tb_4 (List.mem_of_getElem? (i := 142) rfl)) rfl
theorem mk_4_143 : Cond.methodLink RX3 131 yX2_put ∈ TBL := tb_mem (tb_4 (List.mem_of_getElem? (i := 143) rfl)) rfl
theorem mk_4_144 : Cond.methodLink RX3 88 yX3_readDisc ∈ TBL := tb_mem (tb_4 (List.mem_of_getElem? (i := 144) rfl)) rfl
theorem mk_4_146 : Cond.instanceMethod yX3_readDisc ∈ TBL := tb_mem (tb_4 (List.mem_of_getElem? (i := 146) rfl)) rfl
theorem mk_4_147 : Cond.code yX3_readDisc cX3_readDisc 3 none ∈ TBL := tb_mem (tb_4 (List.mem_of_getElem? (i := 147) rfl)) rfl
theorem mk_4_148 : Cond.methodLink RX3 137 yX2_swap ∈ TBL := tb_mem (tb_4 (List.mem_of_getElem? (i := 148) rfl)) rfl
theorem mk_4_149 : Cond.methodLink RX3 91 yX3_readLooker ∈ TBL := tb_mem (tb_4 (List.mem_of_getElem? (i := 149) rfl)) rfl
theorem mk_4_151 : Cond.instanceMethod yX3_readLooker ∈ TBL := tb_mem (tb_4 (List.mem_of_getElem? (i := 151) rfl)) rfl
theorem mk_4_152 : Cond.code yX3_readLooker cX3_readLooker 6 none ∈ TBL := tb_mem (tb_4 (List.mem_of_getElem? (i := 152) rfl)) rfl
theorem mk_4_153 : Cond.methodLink RX3 140 yX7_addLooker ∈ TBL := tb_mem (tb_4 (List.mem_of_getElem? (i := 153) rfl)) rfl
theorem mk_4_154 : Cond.instanceMethod yX7_addLooker ∈ TBL := tb_mem (tb_4 (List.mem_of_getElem? (i := 154) rfl)) rfl
theorem mk_4_155 : Cond.selects RX7 yX7_addLooker yX7_addLooker ∈ TBL := tb_mem (tb_4 (List.mem_of_getElem? (i := 155) rfl)) rfl
theorem mk_4_156 : Cond.code yX7_addLooker cX7_addLooker 7 none ∈ TBL := tb_mem (tb_4 (List.mem_of_getElem? (i := 156) rfl)) rfl
theorem mk_4_157 : Cond.methodLink RX3 94 yX3_readLeft ∈ TBL := tb_mem (tb_4 (List.mem_of_getElem? (i := 157) rfl)) rfl
theorem mk_4_159 : Cond.instanceMethod yX3_readLeft ∈ TBL := tb_mem (tb_4 (List.mem_of_getElem? (i := 159) rfl)) rfl
theorem mk_4_160 : Cond.code yX3_readLeft cX3_readLeft 2 none ∈ TBL := tb_mem (tb_4 (List.mem_of_getElem? (i := 160) rfl)) rfl
theorem mk_4_161 : Cond.methodLink RX3 144 yX7_turnLeft ∈ TBL := tb_mem (tb_4 (List.mem_of_getElem? (i := 161) rfl)) rfl
theorem mk_4_162 : Cond.instanceMethod yX7_turnLeft ∈ TBL := tb_mem (tb_4 (List.mem_of_getElem? (i := 162) rfl)) rfl
theorem mk_4_163 : Cond.selects RX7 yX7_turnLeft yX7_turnLeft ∈ TBL := tb_mem (tb_4 (List.mem_of_getElem? (i := 163) rfl)) rfl
theorem mk_4_164 : Cond.code yX7_turnLeft cX7_turnLeft 2 none ∈ TBL := tb_mem (tb_4 (List.mem_of_getElem? (i := 164) rfl)) rfl
theorem mk_4_165 : Cond.methodLink RX3 97 yX3_readMiss ∈ TBL := tb_mem (tb_4 (List.mem_of_getElem? (i := 165) rfl)) rfl
theorem mk_4_167 : Cond.instanceMethod yX3_readMiss ∈ TBL := tb_mem (tb_4 (List.mem_of_getElem? (i := 167) rfl)) rfl
theorem mk_4_168 : Cond.code yX3_readMiss cX3_readMiss 3 none ∈ TBL := tb_mem (tb_4 (List.mem_of_getElem? (i := 168) rfl)) rfl
theorem mk_4_169 : Cond.methodLink RX3 100 yX3_readStop ∈ TBL := tb_mem (tb_4 (List.mem_of_getElem? (i := 169) rfl)) rfl
theorem mk_4_171 : Cond.instanceMethod yX3_readStop ∈ TBL := tb_mem (tb_4 (List.mem_of_getElem? (i := 171) rfl)) rfl
theorem mk_4_172 : Cond.code yX3_readStop cX3_readStop 2 none ∈ TBL := tb_mem (tb_4 (List.mem_of_getElem? (i := 172) rfl)) rfl
theorem mk_4_173 : Cond.methodLink RX3 103 yX3_readBack ∈ TBL := tb_mem (tb_4 (List.mem_of_getElem? (i := 173) rfl)) rfl
theorem mk_4_175 : Cond.instanceMethod yX3_readBack ∈ TBL := tb_mem (tb_4 (List.mem_of_getElem? (i := 175) rfl)) rfl
theorem mk_4_176 : Cond.code yX3_readBack cX3_readBack 5 none ∈ TBL := tb_mem (tb_4 (List.mem_of_getElem? (i := 176) rfl)) rfl
theorem mk_4_177 : Cond.methodLink RX9 125 yX7_copy ∈ TBL := tb_mem (tb_4 (List.mem_of_getElem? (i := 177) rfl)) rfl
theorem mk_4_178 : Cond.instanceMethod yX7_copy ∈ TBL := tb_mem (tb_4 (List.mem_of_getElem? (i := 178) rfl)) rfl
theorem mk_4_179 : Cond.selects RX7 yX7_copy yX7_copy ∈ TBL := tb_mem (tb_4 (List.mem_of_getElem? (i := 179) rfl)) rfl
theorem mk_4_180 : Cond.code yX7_copy cX7_copy 2 none ∈ TBL := tb_mem (tb_4 (List.mem_of_getElem? (i := 180) rfl)) rfl
theorem mk_4_181 : Cond.methodLink RX7 61 yX2_copy ∈ TBL := tb_mem (tb_4 (List.mem_of_getElem? (i := 181) rfl)) rfl
theorem mk_4_182 : Cond.methodLink RL 111 yL_told ∈ TBL := tb_mem (tb_4 (List.mem_of_getElem? (i := 182) rfl)) rfl
theorem mk_4_183 : Cond.static yL_told ∈ TBL := tb_mem (tb_4 (List.mem_of_getElem? (i := 183) rfl)) rfl
theorem mk_4_184 : Cond.codeWith yL_told cL_told 4 (some .int) [(0, 9, 12, 13)] ∈ TBL := tb_mem (tb_4 (List.mem_of_getElem? (i := 184) rfl)) rfl
theorem mk_4_185 : Cond.methodLink RL 15 yX9_told ∈ TBL := tb_mem (tb_4 (List.mem_of_getElem? (i := 185) rfl)) rfl
theorem mk_4_186 : Cond.instanceMethod yX9_told ∈ TBL := tb_mem (tb_4 (List.mem_of_getElem? (i := 186) rfl)) rfl
theorem mk_4_187 : Cond.selects RX9 yX9_told yX9_told ∈ TBL := tb_mem (tb_4 (List.mem_of_getElem? (i := 187) rfl)) rfl
theorem mk_4_188 : Cond.code yX9_told cX9_told 2 (some .int) ∈ TBL := tb_mem (tb_4 (List.mem_of_getElem? (i := 188) rfl)) rfl
theorem mk_4_189 : Cond.methodLink RL 114 yL_crate ∈ TBL := tb_mem (tb_4 (List.mem_of_getElem? (i := 189) rfl)) rfl
theorem mk_4_190 : Cond.static yL_crate ∈ TBL := tb_mem (tb_4 (List.mem_of_getElem? (i := 190) rfl)) rfl
theorem mk_4_191 : Cond.codeWith yL_crate cL_crate 5 (some .int) [(0, 10, 13, 22), (0, 10, 17, 13)] ∈ TBL := tb_mem (tb_4 (List.mem_of_getElem? (i := 191) rfl)) rfl
theorem mk_4_192 : Cond.classLink RL 22 "java/lang/IndexOutOfBoundsException" ∈ TBL := tb_mem (tb_4 (List.mem_of_getElem? (i := 192) rfl)) rfl
theorem mk_4_193 : Cond.methodLink RL 18 yX9_crate ∈ TBL := tb_mem (tb_4 (List.mem_of_getElem? (i := 193) rfl)) rfl
theorem mk_4_194 : Cond.instanceMethod yX9_crate ∈ TBL := tb_mem (tb_4 (List.mem_of_getElem? (i := 194) rfl)) rfl
theorem mk_4_195 : Cond.selects RX9 yX9_crate yX9_crate ∈ TBL := tb_mem (tb_4 (List.mem_of_getElem? (i := 195) rfl)) rfl
theorem mk_4_196 : Cond.code yX9_crate cX9_crate 3 (some .int) ∈ TBL := tb_mem (tb_4 (List.mem_of_getElem? (i := 196) rfl)) rfl
theorem mk_4_197 : Cond.methodLink RX9 146 yX9_needCrate ∈ TBL := tb_mem (tb_4 (List.mem_of_getElem? (i := 197) rfl)) rfl
theorem mk_4_199 : Cond.instanceMethod yX9_needCrate ∈ TBL := tb_mem (tb_4 (List.mem_of_getElem? (i := 199) rfl)) rfl
theorem mk_4_200 : Cond.code yX9_needCrate cX9_needCrate 2 none ∈ TBL := tb_mem (tb_4 (List.mem_of_getElem? (i := 200) rfl)) rfl
theorem mk_4_201 : Cond.classLink RX9 342 "java/lang/IndexOutOfBoundsException" ∈ TBL := tb_mem (tb_4 (List.mem_of_getElem? (i := 201) rfl)) rfl
theorem mk_4_202 : Cond.instantiable "java/lang/IndexOutOfBoundsException" 6 ∈ TBL := tb_mem (tb_4 (List.mem_of_getElem? (i := 202) rfl)) rfl
theorem mk_4_204 : Cond.selects "java/lang/IndexOutOfBoundsException" ⟨"java/lang/Throwable", "fillInStackTrace", "(I)Ljava/lang/Throwable;"⟩ ⟨"java/lang/Throwable", "fillInStackTrace", "(I)Ljava/lang/Throwable;"⟩ ∈ TBL := tb_mem (tb_4 (List.mem_of_getElem? (i := 204) rfl)) rfl
theorem mk_4_211 : Cond.methodLink RX9 346 ⟨"java/lang/IndexOutOfBoundsException", "<init>", "(Ljava/lang/String;)V"⟩ ∈ TBL := tb_mem (tb_4 (List.mem_of_getElem? (i := 211) rfl)) rfl
theorem mk_4_212 : Cond.instanceMethod ⟨"java/lang/IndexOutOfBoundsException", "<init>", "(Ljava/lang/String;)V"⟩ ∈ TBL := tb_mem (tb_4 (List.mem_of_getElem? (i := 212) rfl)) rfl
theorem mk_4_213 : Cond.code ⟨"java/lang/IndexOutOfBoundsException", "<init>", "(Ljava/lang/String;)V"⟩ prog_19_method_2_code 2 none ∈ TBL := tb_mem (tb_4 (List.mem_of_getElem? (i := 213) rfl)) rfl
theorem mk_4_214 : Cond.methodLink "java/lang/IndexOutOfBoundsException" 7 ⟨"java/lang/RuntimeException", "<init>", "(Ljava/lang/String;)V"⟩ ∈ TBL := tb_mem (tb_4 (List.mem_of_getElem? (i := 214) rfl)) rfl
theorem mk_4_217 : Cond.methodLink RX9 152 yX5_size ∈ TBL := tb_mem (tb_4 (List.mem_of_getElem? (i := 217) rfl)) rfl
theorem mk_4_218 : Cond.methodLink RL 118 yL_row ∈ TBL := tb_mem (tb_4 (List.mem_of_getElem? (i := 218) rfl)) rfl
theorem mk_4_219 : Cond.static yL_row ∈ TBL := tb_mem (tb_4 (List.mem_of_getElem? (i := 219) rfl)) rfl
theorem mk_4_220 : Cond.codeWith yL_row cL_row 5 (some .int) [(0, 10, 13, 22)] ∈ TBL := tb_mem (tb_4 (List.mem_of_getElem? (i := 220) rfl)) rfl
theorem mk_4_221 : Cond.methodLink RL 24 yX9_row ∈ TBL := tb_mem (tb_4 (List.mem_of_getElem? (i := 221) rfl)) rfl
theorem mk_4_222 : Cond.instanceMethod yX9_row ∈ TBL := tb_mem (tb_4 (List.mem_of_getElem? (i := 222) rfl)) rfl
theorem mk_4_223 : Cond.selects RX9 yX9_row yX9_row ∈ TBL := tb_mem (tb_4 (List.mem_of_getElem? (i := 223) rfl)) rfl
theorem mk_4_224 : Cond.code yX9_row cX9_row 3 (some .int) ∈ TBL := tb_mem (tb_4 (List.mem_of_getElem? (i := 224) rfl)) rfl
theorem mk_4_225 : Cond.methodLink RX9 155 yX5_inRow ∈ TBL := tb_mem (tb_4 (List.mem_of_getElem? (i := 225) rfl)) rfl
theorem mk_4_226 : Cond.instanceMethod yX5_inRow ∈ TBL := tb_mem (tb_4 (List.mem_of_getElem? (i := 226) rfl)) rfl
theorem mk_4_227 : Cond.selects RX5 yX5_inRow yX5_inRow ∈ TBL := tb_mem (tb_4 (List.mem_of_getElem? (i := 227) rfl)) rfl
theorem mk_4_228 : Cond.code yX5_inRow cX5_inRow 6 (some .int) ∈ TBL := tb_mem (tb_4 (List.mem_of_getElem? (i := 228) rfl)) rfl
theorem mk_4_229 : Cond.methodLink RL 121 yL_sleeve ∈ TBL := tb_mem (tb_4 (List.mem_of_getElem? (i := 229) rfl)) rfl
theorem mk_4_230 : Cond.static yL_sleeve ∈ TBL := tb_mem (tb_4 (List.mem_of_getElem? (i := 230) rfl)) rfl
theorem mk_4_231 : Cond.codeWith yL_sleeve cL_sleeve 5 (some .int) [(0, 10, 13, 30), (0, 10, 17, 13)] ∈ TBL := tb_mem (tb_4 (List.mem_of_getElem? (i := 231) rfl)) rfl
theorem mk_4_232 : Cond.classLink RL 30 "java/util/NoSuchElementException" ∈ TBL := tb_mem (tb_4 (List.mem_of_getElem? (i := 232) rfl)) rfl
theorem mk_4_233 : Cond.methodLink RL 27 yX9_sleeve ∈ TBL := tb_mem (tb_4 (List.mem_of_getElem? (i := 233) rfl)) rfl
theorem mk_4_234 : Cond.instanceMethod yX9_sleeve ∈ TBL := tb_mem (tb_4 (List.mem_of_getElem? (i := 234) rfl)) rfl
theorem mk_4_235 : Cond.selects RX9 yX9_sleeve yX9_sleeve ∈ TBL := tb_mem (tb_4 (List.mem_of_getElem? (i := 235) rfl)) rfl
theorem mk_4_236 : Cond.code yX9_sleeve cX9_sleeve 3 (some .int) ∈ TBL := tb_mem (tb_4 (List.mem_of_getElem? (i := 236) rfl)) rfl
theorem mk_4_237 : Cond.methodLink RX9 159 yX9_needSleeve ∈ TBL := tb_mem (tb_4 (List.mem_of_getElem? (i := 237) rfl)) rfl
theorem mk_4_239 : Cond.instanceMethod yX9_needSleeve ∈ TBL := tb_mem (tb_4 (List.mem_of_getElem? (i := 239) rfl)) rfl
theorem mk_5_0 : Cond.code yX9_needSleeve cX9_needSleeve 2 none ∈ TBL := tb_mem (tb_5 (List.mem_of_getElem? (i := 0) rfl)) rfl
theorem mk_5_1 : Cond.classLink RX9 349 "java/util/NoSuchElementException" ∈ TBL := tb_mem (tb_5 (List.mem_of_getElem? (i := 1) rfl)) rfl
theorem mk_5_2 : Cond.instantiable "java/util/NoSuchElementException" 6 ∈ TBL := tb_mem (tb_5 (List.mem_of_getElem? (i := 2) rfl)) rfl
theorem mk_5_4 : Cond.selects "java/util/NoSuchElementException" ⟨"java/lang/Throwable", "fillInStackTrace", "(I)Ljava/lang/Throwable;"⟩ ⟨"java/lang/Throwable", "fillInStackTrace", "(I)Ljava/lang/Throwable;"⟩ ∈ TBL := tb_mem (tb_5 (List.mem_of_getElem? (i := 4) rfl)) rfl
theorem mk_5_11 : Cond.methodLink RX9 353 ⟨"java/util/NoSuchElementException", "<init>", "(Ljava/lang/String;)V"⟩ ∈ TBL := tb_mem (tb_5 (List.mem_of_getElem? (i := 11) rfl)) rfl
theorem mk_5_12 : Cond.instanceMethod ⟨"java/util/NoSuchElementException", "<init>", "(Ljava/lang/String;)V"⟩ ∈ TBL := tb_mem (tb_5 (List.mem_of_getElem? (i := 12) rfl)) rfl
theorem mk_5_13 : Cond.code ⟨"java/util/NoSuchElementException", "<init>", "(Ljava/lang/String;)V"⟩ prog_29_method_4_code 2 none ∈ TBL := tb_mem (tb_5 (List.mem_of_getElem? (i := 13) rfl)) rfl
theorem mk_5_14 : Cond.methodLink "java/util/NoSuchElementException" 13 ⟨"java/lang/RuntimeException", "<init>", "(Ljava/lang/String;)V"⟩ ∈ TBL := tb_mem (tb_5 (List.mem_of_getElem? (i := 14) rfl)) rfl
theorem mk_5_17 : Cond.methodLink RX9 168 yX9_kindOf ∈ TBL := tb_mem (tb_5 (List.mem_of_getElem? (i := 17) rfl)) rfl
theorem mk_5_19 : Cond.instanceMethod yX9_kindOf ∈ TBL := tb_mem (tb_5 (List.mem_of_getElem? (i := 19) rfl)) rfl
theorem mk_5_20 : Cond.code yX9_kindOf cX9_kindOf 2 (some .int) ∈ TBL := tb_mem (tb_5 (List.mem_of_getElem? (i := 20) rfl)) rfl
theorem mk_5_21 : Cond.methodLink RX9 174 yX5_lies ∈ TBL := tb_mem (tb_5 (List.mem_of_getElem? (i := 21) rfl)) rfl
theorem mk_5_22 : Cond.methodLink RX9 182 yJ9_min_7cf53 ∈ TBL := tb_mem (tb_5 (List.mem_of_getElem? (i := 22) rfl)) rfl
theorem mk_5_23 : Cond.methodLink RL 124 yL_looker ∈ TBL := tb_mem (tb_5 (List.mem_of_getElem? (i := 23) rfl)) rfl
theorem mk_5_24 : Cond.static yL_looker ∈ TBL := tb_mem (tb_5 (List.mem_of_getElem? (i := 24) rfl)) rfl
theorem mk_5_25 : Cond.codeWith yL_looker cL_looker 5 (some .int) [(0, 10, 13, 30), (0, 10, 17, 13)] ∈ TBL := tb_mem (tb_5 (List.mem_of_getElem? (i := 25) rfl)) rfl
theorem mk_5_26 : Cond.methodLink RL 32 yX9_looker ∈ TBL := tb_mem (tb_5 (List.mem_of_getElem? (i := 26) rfl)) rfl
theorem mk_5_27 : Cond.instanceMethod yX9_looker ∈ TBL := tb_mem (tb_5 (List.mem_of_getElem? (i := 27) rfl)) rfl
theorem mk_5_28 : Cond.selects RX9 yX9_looker yX9_looker ∈ TBL := tb_mem (tb_5 (List.mem_of_getElem? (i := 28) rfl)) rfl
theorem mk_5_29 : Cond.code yX9_looker cX9_looker 3 (some .int) ∈ TBL := tb_mem (tb_5 (List.mem_of_getElem? (i := 29) rfl)) rfl
theorem mk_5_30 : Cond.methodLink RX9 187 yX9_needLooker ∈ TBL := tb_mem (tb_5 (List.mem_of_getElem? (i := 30) rfl)) rfl
theorem mk_5_32 : Cond.instanceMethod yX9_needLooker ∈ TBL := tb_mem (tb_5 (List.mem_of_getElem? (i := 32) rfl)) rfl
theorem mk_5_33 : Cond.code yX9_needLooker cX9_needLooker 2 none ∈ TBL := tb_mem (tb_5 (List.mem_of_getElem? (i := 33) rfl)) rfl
theorem mk_5_35 : Cond.methodLink RX9 190 yX7_ofLooker ∈ TBL := tb_mem (tb_5 (List.mem_of_getElem? (i := 35) rfl)) rfl
theorem mk_5_36 : Cond.methodLink RL 127 yL_missed ∈ TBL := tb_mem (tb_5 (List.mem_of_getElem? (i := 36) rfl)) rfl
theorem mk_5_37 : Cond.static yL_missed ∈ TBL := tb_mem (tb_5 (List.mem_of_getElem? (i := 37) rfl)) rfl
theorem mk_5_38 : Cond.codeWith yL_missed cL_missed 4 (some .int) [(0, 9, 12, 13)] ∈ TBL := tb_mem (tb_5 (List.mem_of_getElem? (i := 38) rfl)) rfl
theorem mk_5_39 : Cond.methodLink RL 35 yX9_missed ∈ TBL := tb_mem (tb_5 (List.mem_of_getElem? (i := 39) rfl)) rfl
theorem mk_5_40 : Cond.instanceMethod yX9_missed ∈ TBL := tb_mem (tb_5 (List.mem_of_getElem? (i := 40) rfl)) rfl
theorem mk_5_41 : Cond.selects RX9 yX9_missed yX9_missed ∈ TBL := tb_mem (tb_5 (List.mem_of_getElem? (i := 41) rfl)) rfl
theorem mk_5_42 : Cond.code yX9_missed cX9_missed 2 (some .int) ∈ TBL := tb_mem (tb_5 (List.mem_of_getElem? (i := 42) rfl)) rfl
theorem mk_5_43 : Cond.methodLink RX9 193 yX9_isPace ∈ TBL := tb_mem (tb_5 (List.mem_of_getElem? (i := 43) rfl)) rfl
theorem mk_5_44 : Cond.static yX9_isPace ∈ TBL := tb_mem (tb_5 (List.mem_of_getElem? (i := 44) rfl)) rfl
theorem mk_5_45 : Cond.code yX9_isPace cX9_isPace 1 (some .boolean) ∈ TBL := tb_mem (tb_5 (List.mem_of_getElem? (i := 45) rfl)) rfl
theorem mk_5_46 : Cond.methodLink RL 130 yL_lay ∈ TBL := tb_mem (tb_5 (List.mem_of_getElem? (i := 46) rfl)) rfl
theorem mk_5_47 : Cond.static yL_lay ∈ TBL := tb_mem (tb_5 (List.mem_of_getElem? (i := 47) rfl)) rfl
theorem mk_5_48 : Cond.codeWith yL_lay cL_lay 5 (some .int) [(0, 10, 13, 22), (0, 10, 17, 30), (0, 10, 21, 41)] ∈ TBL := tb_mem (tb_5 (List.mem_of_getElem? (i := 48) rfl)) rfl
theorem mk_5_49 : Cond.classLink RL 41 "java/lang/IllegalStateException" ∈ TBL := tb_mem (tb_5 (List.mem_of_getElem? (i := 49) rfl)) rfl
theorem mk_5_50 : Cond.methodLink RL 38 yX9_lay ∈ TBL := tb_mem (tb_5 (List.mem_of_getElem? (i := 50) rfl)) rfl
theorem mk_5_51 : Cond.instanceMethod yX9_lay ∈ TBL := tb_mem (tb_5 (List.mem_of_getElem? (i := 51) rfl)) rfl
theorem mk_5_52 : Cond.selects RX9 yX9_lay yX9_lay ∈ TBL := tb_mem (tb_5 (List.mem_of_getElem? (i := 52) rfl)) rfl
theorem mk_5_53 : Cond.code yX9_lay cX9_lay 4 (some .int) ∈ TBL := tb_mem (tb_5 (List.mem_of_getElem? (i := 53) rfl)) rfl
theorem mk_5_54 : Cond.methodLink RX9 199 yX9_needLying ∈ TBL := tb_mem (tb_5 (List.mem_of_getElem? (i := 54) rfl)) rfl
theorem mk_5_56 : Cond.instanceMethod yX9_needLying ∈ TBL := tb_mem (tb_5 (List.mem_of_getElem? (i := 56) rfl)) rfl
theorem mk_5_57 : Cond.code yX9_needLying cX9_needLying 2 none ∈ TBL := tb_mem (tb_5 (List.mem_of_getElem? (i := 57) rfl)) rfl
theorem mk_5_58 : Cond.classLink RX9 361 "java/lang/IllegalStateException" ∈ TBL := tb_mem (tb_5 (List.mem_of_getElem? (i := 58) rfl)) rfl
theorem mk_5_59 : Cond.instantiable "java/lang/IllegalStateException" 6 ∈ TBL := tb_mem (tb_5 (List.mem_of_getElem? (i := 59) rfl)) rfl
theorem mk_5_61 : Cond.selects "java/lang/IllegalStateException" ⟨"java/lang/Throwable", "fillInStackTrace", "(I)Ljava/lang/Throwable;"⟩ ⟨"java/lang/Throwable", "fillInStackTrace", "(I)Ljava/lang/Throwable;"⟩ ∈ TBL := tb_mem (tb_5 (List.mem_of_getElem? (i := 61) rfl)) rfl
theorem mk_5_68 : Cond.methodLink RX9 365 ⟨"java/lang/IllegalStateException", "<init>", "(Ljava/lang/String;)V"⟩ ∈ TBL := tb_mem (tb_5 (List.mem_of_getElem? (i := 68) rfl)) rfl
theorem mk_5_69 : Cond.instanceMethod ⟨"java/lang/IllegalStateException", "<init>", "(Ljava/lang/String;)V"⟩ ∈ TBL := tb_mem (tb_5 (List.mem_of_getElem? (i := 69) rfl)) rfl
theorem mk_5_70 : Cond.code ⟨"java/lang/IllegalStateException", "<init>", "(Ljava/lang/String;)V"⟩ prog_18_method_2_code 2 none ∈ TBL := tb_mem (tb_5 (List.mem_of_getElem? (i := 70) rfl)) rfl
theorem mk_5_71 : Cond.methodLink "java/lang/IllegalStateException" 7 ⟨"java/lang/RuntimeException", "<init>", "(Ljava/lang/String;)V"⟩ ∈ TBL := tb_mem (tb_5 (List.mem_of_getElem? (i := 71) rfl)) rfl
theorem mk_5_74 : Cond.methodLink RL 133 yL_change ∈ TBL := tb_mem (tb_5 (List.mem_of_getElem? (i := 74) rfl)) rfl
theorem mk_5_75 : Cond.static yL_change ∈ TBL := tb_mem (tb_5 (List.mem_of_getElem? (i := 75) rfl)) rfl
theorem mk_5_76 : Cond.codeWith yL_change cL_change 5 (some .int) [(0, 10, 13, 30), (0, 10, 17, 13)] ∈ TBL := tb_mem (tb_5 (List.mem_of_getElem? (i := 76) rfl)) rfl
theorem mk_5_77 : Cond.methodLink RL 43 yX9_change ∈ TBL := tb_mem (tb_5 (List.mem_of_getElem? (i := 77) rfl)) rfl
theorem mk_5_78 : Cond.instanceMethod yX9_change ∈ TBL := tb_mem (tb_5 (List.mem_of_getElem? (i := 78) rfl)) rfl
theorem mk_5_79 : Cond.selects RX9 yX9_change yX9_change ∈ TBL := tb_mem (tb_5 (List.mem_of_getElem? (i := 79) rfl)) rfl
theorem mk_5_80 : Cond.code yX9_change cX9_change 3 (some .int) ∈ TBL := tb_mem (tb_5 (List.mem_of_getElem? (i := 80) rfl)) rfl
theorem mk_5_81 : Cond.methodLink RX9 205 yX2_swap ∈ TBL := tb_mem (tb_5 (List.mem_of_getElem? (i := 81) rfl)) rfl
theorem mk_5_82 : Cond.methodLink RL 136 yL_wander ∈ TBL := tb_mem (tb_5 (List.mem_of_getElem? (i := 82) rfl)) rfl
theorem mk_5_83 : Cond.static yL_wander ∈ TBL := tb_mem (tb_5 (List.mem_of_getElem? (i := 83) rfl)) rfl
theorem mk_5_84 : Cond.codeWith yL_wander cL_wander 5 (some .int) [(0, 10, 13, 22), (0, 10, 17, 13)] ∈ TBL := tb_mem (tb_5 (List.mem_of_getElem? (i := 84) rfl)) rfl
theorem mk_5_85 : Cond.methodLink RL 46 yX9_wander ∈ TBL := tb_mem (tb_5 (List.mem_of_getElem? (i := 85) rfl)) rfl
theorem mk_5_86 : Cond.instanceMethod yX9_wander ∈ TBL := tb_mem (tb_5 (List.mem_of_getElem? (i := 86) rfl)) rfl
theorem mk_5_87 : Cond.selects RX9 yX9_wander yX9_wander ∈ TBL := tb_mem (tb_5 (List.mem_of_getElem? (i := 87) rfl)) rfl
theorem mk_5_88 : Cond.code yX9_wander cX9_wander 4 (some .int) ∈ TBL := tb_mem (tb_5 (List.mem_of_getElem? (i := 88) rfl)) rfl
theorem mk_5_89 : Cond.methodLink RX9 211 yX2_placeOf ∈ TBL := tb_mem (tb_5 (List.mem_of_getElem? (i := 89) rfl)) rfl
theorem mk_5_90 : Cond.methodLink RX9 214 yX2_shift ∈ TBL := tb_mem (tb_5 (List.mem_of_getElem? (i := 90) rfl)) rfl
theorem mk_5_91 : Cond.methodLink RL 143 yL_would ∈ TBL := tb_mem (tb_5 (List.mem_of_getElem? (i := 91) rfl)) rfl
theorem mk_5_92 : Cond.static yL_would ∈ TBL := tb_mem (tb_5 (List.mem_of_getElem? (i := 92) rfl)) rfl
theorem mk_5_93 : Cond.codeWith yL_would cL_would 5 (some .int) [(0, 10, 13, 13)] ∈ TBL := tb_mem (tb_5 (List.mem_of_getElem? (i := 93) rfl)) rfl
theorem mk_5_94 : Cond.methodLink RL 49 yX9_would ∈ TBL := tb_mem (tb_5 (List.mem_of_getElem? (i := 94) rfl)) rfl
theorem mk_5_95 : Cond.instanceMethod yX9_would ∈ TBL := tb_mem (tb_5 (List.mem_of_getElem? (i := 95) rfl)) rfl
theorem mk_5_96 : Cond.selects RX9 yX9_would yX9_would ∈ TBL := tb_mem (tb_5 (List.mem_of_getElem? (i := 96) rfl)) rfl
theorem mk_5_97 : Cond.code yX9_would cX9_would 3 (some .int) ∈ TBL := tb_mem (tb_5 (List.mem_of_getElem? (i := 97) rfl)) rfl
theorem mk_5_98 : Cond.methodLink RX9 247 yX1_lastGone ∈ TBL := tb_mem (tb_5 (List.mem_of_getElem? (i := 98) rfl)) rfl
theorem mk_5_99 : Cond.instanceMethod yX1_lastGone ∈ TBL := tb_mem (tb_5 (List.mem_of_getElem? (i := 99) rfl)) rfl
theorem mk_5_100 : Cond.selects RX1 yX1_lastGone yX1_lastGone ∈ TBL := tb_mem (tb_5 (List.mem_of_getElem? (i := 100) rfl)) rfl
theorem mk_5_101 : Cond.code yX1_lastGone cX1_lastGone 3 (some .int) ∈ TBL := tb_mem (tb_5 (List.mem_of_getElem? (i := 101) rfl)) rfl
theorem mk_5_102 : Cond.methodLink RL 146 yL_buys ∈ TBL := tb_mem (tb_5 (List.mem_of_getElem? (i := 102) rfl)) rfl
theorem mk_5_103 : Cond.static yL_buys ∈ TBL := tb_mem (tb_5 (List.mem_of_getElem? (i := 103) rfl)) rfl
theorem mk_5_104 : Cond.codeWith yL_buys cL_buys 6 (some .int) [(0, 12, 15, 30), (0, 12, 19, 13)] ∈ TBL := tb_mem (tb_5 (List.mem_of_getElem? (i := 104) rfl)) rfl
theorem mk_5_105 : Cond.methodLink RL 52 yX9_buys ∈ TBL := tb_mem (tb_5 (List.mem_of_getElem? (i := 105) rfl)) rfl
theorem mk_5_106 : Cond.instanceMethod yX9_buys ∈ TBL := tb_mem (tb_5 (List.mem_of_getElem? (i := 106) rfl)) rfl
theorem mk_5_107 : Cond.selects RX9 yX9_buys yX9_buys ∈ TBL := tb_mem (tb_5 (List.mem_of_getElem? (i := 107) rfl)) rfl
theorem mk_5_108 : Cond.code yX9_buys cX9_buys 4 (some .int) ∈ TBL := tb_mem (tb_5 (List.mem_of_getElem? (i := 108) rfl)) rfl
theorem mk_5_109 : Cond.methodLink RL 150 yL_then ∈ TBL := tb_mem (tb_5 (List.mem_of_getElem? (i := 109) rfl)) rfl
theorem mk_5_110 : Cond.static yL_then ∈ TBL := tb_mem (tb_5 (List.mem_of_getElem? (i := 110) rfl)) rfl
theorem mk_5_111 : Cond.codeWith yL_then cL_then 5 (some .int) [(0, 10, 13, 30)] ∈ TBL := tb_mem (tb_5 (List.mem_of_getElem? (i := 111) rfl)) rfl
theorem mk_5_112 : Cond.methodLink RL 56 yX9_then ∈ TBL := tb_mem (tb_5 (List.mem_of_getElem? (i := 112) rfl)) rfl
theorem mk_5_113 : Cond.instanceMethod yX9_then ∈ TBL := tb_mem (tb_5 (List.mem_of_getElem? (i := 113) rfl)) rfl
theorem mk_5_114 : Cond.selects RX9 yX9_then yX9_then ∈ TBL := tb_mem (tb_5 (List.mem_of_getElem? (i := 114) rfl)) rfl
theorem mk_5_115 : Cond.code yX9_then cX9_then 3 (some .int) ∈ TBL := tb_mem (tb_5 (List.mem_of_getElem? (i := 115) rfl)) rfl
theorem mk_5_116 : Cond.methodLink RL 153 yL_odds ∈ TBL := tb_mem (tb_5 (List.mem_of_getElem? (i := 116) rfl)) rfl
theorem mk_5_117 : Cond.static yL_odds ∈ TBL := tb_mem (tb_5 (List.mem_of_getElem? (i := 117) rfl)) rfl
theorem mk_5_118 : Cond.codeWith yL_odds cL_odds 7 (some .int) [(0, 13, 16, 22), (0, 13, 20, 30), (0, 13, 24, 13), (0, 13, 28, 41)] ∈ TBL := tb_mem (tb_5 (List.mem_of_getElem? (i := 118) rfl)) rfl
theorem mk_5_119 : Cond.methodLink RL 59 yX9_odds ∈ TBL := tb_mem (tb_5 (List.mem_of_getElem? (i := 119) rfl)) rfl
theorem mk_5_120 : Cond.instanceMethod yX9_odds ∈ TBL := tb_mem (tb_5 (List.mem_of_getElem? (i := 120) rfl)) rfl
theorem mk_5_121 : Cond.selects RX9 yX9_odds yX9_odds ∈ TBL := tb_mem (tb_5 (List.mem_of_getElem? (i := 121) rfl)) rfl
theorem mk_5_122 : Cond.code yX9_odds cX9_odds 5 (some .long) ∈ TBL := tb_mem (tb_5 (List.mem_of_getElem? (i := 122) rfl)) rfl
theorem mk_5_123 : Cond.methodLink RX9 253 yX8_putBack ∈ TBL := tb_mem (tb_5 (List.mem_of_getElem? (i := 123) rfl)) rfl
theorem mk_5_124 : Cond.instanceMethod yX8_putBack ∈ TBL := tb_mem (tb_5 (List.mem_of_getElem? (i := 124) rfl)) rfl
theorem mk_5_125 : Cond.selects RX8 yX8_putBack yX8_putBack ∈ TBL := tb_mem (tb_5 (List.mem_of_getElem? (i := 125) rfl)) rfl
theorem mk_5_126 : Cond.code yX8_putBack cX8_putBack 4 none ∈ TBL := tb_mem (tb_5 (List.mem_of_getElem? (i := 126) rfl)) rfl
theorem mk_5_127 : Cond.methodLink RX8 39 yX8_clearShares ∈ TBL := tb_mem (tb_5 (List.mem_of_getElem? (i := 127) rfl)) rfl
theorem mk_5_129 : Cond.instanceMethod yX8_clearShares ∈ TBL := tb_mem (tb_5 (List.mem_of_getElem? (i := 129) rfl)) rfl
theorem mk_5_130 : Cond.code yX8_clearShares cX8_clearShares 2 none ∈ TBL := tb_mem (tb_5 (List.mem_of_getElem? (i := 130) rfl)) rfl
theorem mk_5_131 : Cond.methodLink RX8 47 yX2_at ∈ TBL := tb_mem (tb_5 (List.mem_of_getElem? (i := 131) rfl)) rfl
theorem mk_5_132 : Cond.methodLink RX8 51 yX8_give ∈ TBL := tb_mem (tb_5 (List.mem_of_getElem? (i := 132) rfl)) rfl
theorem mk_5_134 : Cond.instanceMethod yX8_give ∈ TBL := tb_mem (tb_5 (List.mem_of_getElem? (i := 134) rfl)) rfl
theorem mk_5_135 : Cond.code yX8_give cX8_give 4 none ∈ TBL := tb_mem (tb_5 (List.mem_of_getElem? (i := 135) rfl)) rfl
theorem mk_5_136 : Cond.methodLink RX8 55 yX7_ofSleeve ∈ TBL := tb_mem (tb_5 (List.mem_of_getElem? (i := 136) rfl)) rfl
theorem mk_5_137 : Cond.methodLink RX8 61 yX8_putBackOnce ∈ TBL := tb_mem (tb_5 (List.mem_of_getElem? (i := 137) rfl)) rfl
theorem mk_5_139 : Cond.instanceMethod yX8_putBackOnce ∈ TBL := tb_mem (tb_5 (List.mem_of_getElem? (i := 139) rfl)) rfl
theorem mk_5_140 : Cond.code yX8_putBackOnce cX8_putBackOnce 3 none ∈ TBL := tb_mem (tb_5 (List.mem_of_getElem? (i := 140) rfl)) rfl
theorem mk_5_141 : Cond.methodLink RX8 64 yX8_share ∈ TBL := tb_mem (tb_5 (List.mem_of_getElem? (i := 141) rfl)) rfl
theorem mk_5_142 : Cond.instanceMethod yX8_share ∈ TBL := tb_mem (tb_5 (List.mem_of_getElem? (i := 142) rfl)) rfl
theorem mk_5_143 : Cond.selects RX8 yX8_share yX8_share ∈ TBL := tb_mem (tb_5 (List.mem_of_getElem? (i := 143) rfl)) rfl
theorem mk_5_144 : Cond.code yX8_share cX8_share 2 (some .long) ∈ TBL := tb_mem (tb_5 (List.mem_of_getElem? (i := 144) rfl)) rfl
theorem mk_5_145 : Cond.methodLink RX8 68 yX8_handOn ∈ TBL := tb_mem (tb_5 (List.mem_of_getElem? (i := 145) rfl)) rfl
theorem mk_5_147 : Cond.instanceMethod yX8_handOn ∈ TBL := tb_mem (tb_5 (List.mem_of_getElem? (i := 147) rfl)) rfl
theorem mk_5_148 : Cond.code yX8_handOn cX8_handOn 8 none ∈ TBL := tb_mem (tb_5 (List.mem_of_getElem? (i := 148) rfl)) rfl
theorem mk_5_149 : Cond.constantLong RX8 72 (2) ∈ TBL := tb_mem (tb_5 (List.mem_of_getElem? (i := 149) rfl)) rfl
theorem mk_5_150 : Cond.methodLink RX8 85 yX8_besideOrHere ∈ TBL := tb_mem (tb_5 (List.mem_of_getElem? (i := 150) rfl)) rfl
theorem mk_5_152 : Cond.instanceMethod yX8_besideOrHere ∈ TBL := tb_mem (tb_5 (List.mem_of_getElem? (i := 152) rfl)) rfl
theorem mk_5_153 : Cond.code yX8_besideOrHere cX8_besideOrHere 3 (some .int) ∈ TBL := tb_mem (tb_5 (List.mem_of_getElem? (i := 153) rfl)) rfl
theorem mk_5_154 : Cond.methodLink RX8 88 yX7_hasCrate ∈ TBL := tb_mem (tb_5 (List.mem_of_getElem? (i := 154) rfl)) rfl
theorem mk_5_155 : Cond.methodLink RX8 81 yX2_sum ∈ TBL := tb_mem (tb_5 (List.mem_of_getElem? (i := 155) rfl)) rfl
theorem mk_5_156 : Cond.methodLink RX9 256 yX8_share ∈ TBL := tb_mem (tb_5 (List.mem_of_getElem? (i := 156) rfl)) rfl
theorem mk_5_157 : Cond.methodLink RX9 264 yX9_leastTerms ∈ TBL := tb_mem (tb_5 (List.mem_of_getElem? (i := 157) rfl)) rfl
theorem mk_5_158 : Cond.static yX9_leastTerms ∈ TBL := tb_mem (tb_5 (List.mem_of_getElem? (i := 158) rfl)) rfl
theorem mk_5_159 : Cond.code yX9_leastTerms cX9_leastTerms 9 (some .long) ∈ TBL := tb_mem (tb_5 (List.mem_of_getElem? (i := 159) rfl)) rfl
theorem mk_5_160 : Cond.methodLink RX9 366 yX9_commonDivisor ∈ TBL := tb_mem (tb_5 (List.mem_of_getElem? (i := 160) rfl)) rfl
theorem mk_5_161 : Cond.static yX9_commonDivisor ∈ TBL := tb_mem (tb_5 (List.mem_of_getElem? (i := 161) rfl)) rfl
theorem mk_5_162 : Cond.code yX9_commonDivisor cX9_commonDivisor 7 (some .long) ∈ TBL := tb_mem (tb_5 (List.mem_of_getElem? (i := 162) rfl)) rfl
theorem mk_5_163 : Cond.methodLink RL 157 yL_hidden ∈ TBL := tb_mem (tb_5 (List.mem_of_getElem? (i := 163) rfl)) rfl
theorem mk_5_164 : Cond.static yL_hidden ∈ TBL := tb_mem (tb_5 (List.mem_of_getElem? (i := 164) rfl)) rfl
theorem mk_5_165 : Cond.codeWith yL_hidden cL_hidden 4 (some .int) [(0, 9, 12, 13)] ∈ TBL := tb_mem (tb_5 (List.mem_of_getElem? (i := 165) rfl)) rfl
theorem mk_5_166 : Cond.methodLink RL 63 yX9_hidden ∈ TBL := tb_mem (tb_5 (List.mem_of_getElem? (i := 166) rfl)) rfl
theorem mk_5_167 : Cond.instanceMethod yX9_hidden ∈ TBL := tb_mem (tb_5 (List.mem_of_getElem? (i := 167) rfl)) rfl
theorem mk_5_168 : Cond.selects RX9 yX9_hidden yX9_hidden ∈ TBL := tb_mem (tb_5 (List.mem_of_getElem? (i := 168) rfl)) rfl
theorem mk_5_169 : Cond.code yX9_hidden cX9_hidden 4 (some .int) ∈ TBL := tb_mem (tb_5 (List.mem_of_getElem? (i := 169) rfl)) rfl
theorem mk_5_170 : Cond.methodLink RX9 268 yX8_canBe ∈ TBL := tb_mem (tb_5 (List.mem_of_getElem? (i := 170) rfl)) rfl
theorem mk_5_171 : Cond.instanceMethod yX8_canBe ∈ TBL := tb_mem (tb_5 (List.mem_of_getElem? (i := 171) rfl)) rfl
theorem mk_5_172 : Cond.selects RX8 yX8_canBe yX8_canBe ∈ TBL := tb_mem (tb_5 (List.mem_of_getElem? (i := 172) rfl)) rfl
theorem mk_5_173 : Cond.code yX8_canBe cX8_canBe 5 (some .boolean) ∈ TBL := tb_mem (tb_5 (List.mem_of_getElem? (i := 173) rfl)) rfl
theorem mk_5_174 : Cond.methodLink RX8 92 yX8_reachedFrom ∈ TBL := tb_mem (tb_5 (List.mem_of_getElem? (i := 174) rfl)) rfl
theorem mk_5_176 : Cond.instanceMethod yX8_reachedFrom ∈ TBL := tb_mem (tb_5 (List.mem_of_getElem? (i := 176) rfl)) rfl
theorem mk_5_177 : Cond.code yX8_reachedFrom cX8_reachedFrom 4 (some .int) ∈ TBL := tb_mem (tb_5 (List.mem_of_getElem? (i := 177) rfl)) rfl
theorem mk_5_179 : Cond.methodLink RL 160 yL_order ∈ TBL := tb_mem (tb_5 (List.mem_of_getElem? (i := 179) rfl)) rfl
theorem mk_5_180 : Cond.static yL_order ∈ TBL := tb_mem (tb_5 (List.mem_of_getElem? (i := 180) rfl)) rfl
theorem mk_5_181 : Cond.codeWith yL_order cL_order 7 (some .int) [(0, 14, 17, 30), (0, 14, 21, 13), (0, 14, 25, 41)] ∈ TBL := tb_mem (tb_5 (List.mem_of_getElem? (i := 181) rfl)) rfl
theorem mk_5_182 : Cond.methodLink RL 66 yX9_order ∈ TBL := tb_mem (tb_5 (List.mem_of_getElem? (i := 182) rfl)) rfl
theorem mk_5_183 : Cond.instanceMethod yX9_order ∈ TBL := tb_mem (tb_5 (List.mem_of_getElem? (i := 183) rfl)) rfl
theorem mk_5_184 : Cond.selects RX9 yX9_order yX9_order ∈ TBL := tb_mem (tb_5 (List.mem_of_getElem? (i := 184) rfl)) rfl
theorem mk_5_185 : Cond.code yX9_order cX9_order 5 (some .int) ∈ TBL := tb_mem (tb_5 (List.mem_of_getElem? (i := 185) rfl)) rfl
theorem mk_5_186 : Cond.methodLink RX9 272 yX9_needSearch ∈ TBL := tb_mem (tb_5 (List.mem_of_getElem? (i := 186) rfl)) rfl
theorem mk_5_188 : Cond.instanceMethod yX9_needSearch ∈ TBL := tb_mem (tb_5 (List.mem_of_getElem? (i := 188) rfl)) rfl
theorem mk_5_189 : Cond.code yX9_needSearch cX9_needSearch 5 none ∈ TBL := tb_mem (tb_5 (List.mem_of_getElem? (i := 189) rfl)) rfl
theorem mk_5_190 : Cond.methodLink RX9 279 yX8_rank ∈ TBL := tb_mem (tb_5 (List.mem_of_getElem? (i := 190) rfl)) rfl
theorem mk_5_191 : Cond.instanceMethod yX8_rank ∈ TBL := tb_mem (tb_5 (List.mem_of_getElem? (i := 191) rfl)) rfl
theorem mk_5_192 : Cond.selects RX8 yX8_rank yX8_rank ∈ TBL := tb_mem (tb_5 (List.mem_of_getElem? (i := 192) rfl)) rfl
theorem mk_5_193 : Cond.code yX8_rank cX8_rank 7 none ∈ TBL := tb_mem (tb_5 (List.mem_of_getElem? (i := 193) rfl)) rfl
theorem mk_5_194 : Cond.methodLink RX8 105 yX8_putBack ∈ TBL := tb_mem (tb_5 (List.mem_of_getElem? (i := 194) rfl)) rfl
theorem mk_5_195 : Cond.methodLink RX8 109 yX8_bestBut ∈ TBL := tb_mem (tb_5 (List.mem_of_getElem? (i := 195) rfl)) rfl
theorem mk_5_197 : Cond.instanceMethod yX8_bestBut ∈ TBL := tb_mem (tb_5 (List.mem_of_getElem? (i := 197) rfl)) rfl
theorem mk_5_198 : Cond.code yX8_bestBut cX8_bestBut 5 (some .int) ∈ TBL := tb_mem (tb_5 (List.mem_of_getElem? (i := 198) rfl)) rfl
theorem mk_5_199 : Cond.methodLink RX8 115 yX8_isAhead ∈ TBL := tb_mem (tb_5 (List.mem_of_getElem? (i := 199) rfl)) rfl
theorem mk_5_201 : Cond.instanceMethod yX8_isAhead ∈ TBL := tb_mem (tb_5 (List.mem_of_getElem? (i := 201) rfl)) rfl
theorem mk_5_202 : Cond.code yX8_isAhead cX8_isAhead 4 (some .boolean) ∈ TBL := tb_mem (tb_5 (List.mem_of_getElem? (i := 202) rfl)) rfl
theorem mk_5_203 : Cond.methodLink RX8 119 yX8_secondsOf ∈ TBL := tb_mem (tb_5 (List.mem_of_getElem? (i := 203) rfl)) rfl
theorem mk_5_205 : Cond.instanceMethod yX8_secondsOf ∈ TBL := tb_mem (tb_5 (List.mem_of_getElem? (i := 205) rfl)) rfl
theorem mk_5_206 : Cond.code yX8_secondsOf cX8_secondsOf 3 (some .int) ∈ TBL := tb_mem (tb_5 (List.mem_of_getElem? (i := 206) rfl)) rfl
theorem mk_5_207 : Cond.methodLink RX8 99 yX5_size ∈ TBL := tb_mem (tb_5 (List.mem_of_getElem? (i := 207) rfl)) rfl
theorem mk_5_209 : Cond.methodLink RX8 112 yX2_put ∈ TBL := tb_mem (tb_5 (List.mem_of_getElem? (i := 209) rfl)) rfl
theorem mk_5_210 : Cond.methodLink RL 163 yL_mean ∈ TBL := tb_mem (tb_5 (List.mem_of_getElem? (i := 210) rfl)) rfl
theorem mk_5_211 : Cond.static yL_mean ∈ TBL := tb_mem (tb_5 (List.mem_of_getElem? (i := 211) rfl)) rfl
theorem mk_5_212 : Cond.codeWith yL_mean cL_mean 7 (some .int) [(0, 13, 16, 30), (0, 13, 20, 13), (0, 13, 24, 41)] ∈ TBL := tb_mem (tb_5 (List.mem_of_getElem? (i := 212) rfl)) rfl
theorem mk_5_213 : Cond.methodLink RL 70 yX9_mean ∈ TBL := tb_mem (tb_5 (List.mem_of_getElem? (i := 213) rfl)) rfl
theorem mk_5_214 : Cond.instanceMethod yX9_mean ∈ TBL := tb_mem (tb_5 (List.mem_of_getElem? (i := 214) rfl)) rfl
theorem mk_5_215 : Cond.selects RX9 yX9_mean yX9_mean ∈ TBL := tb_mem (tb_5 (List.mem_of_getElem? (i := 215) rfl)) rfl
theorem mk_5_216 : Cond.code yX9_mean cX9_mean 5 (some .long) ∈ TBL := tb_mem (tb_5 (List.mem_of_getElem? (i := 216) rfl)) rfl
theorem mk_5_217 : Cond.methodLink RX9 286 yX8_sharedSeconds ∈ TBL := tb_mem (tb_5 (List.mem_of_getElem? (i := 217) rfl)) rfl
theorem mk_5_218 : Cond.instanceMethod yX8_sharedSeconds ∈ TBL := tb_mem (tb_5 (List.mem_of_getElem? (i := 218) rfl)) rfl
theorem mk_5_219 : Cond.selects RX8 yX8_sharedSeconds yX8_sharedSeconds ∈ TBL := tb_mem (tb_5 (List.mem_of_getElem? (i := 219) rfl)) rfl
theorem mk_5_220 : Cond.code yX8_sharedSeconds cX8_sharedSeconds 8 (some .long) ∈ TBL := tb_mem (tb_5 (List.mem_of_getElem? (i := 220) rfl)) rfl
theorem mk_5_221 : Cond.methodLink RL 170 yL_round ∈ TBL := tb_mem (tb_5 (List.mem_of_getElem? (i := 221) rfl)) rfl
theorem mk_5_222 : Cond.static yL_round ∈ TBL := tb_mem (tb_5 (List.mem_of_getElem? (i := 222) rfl)) rfl
theorem mk_5_223 : Cond.codeWith yL_round cL_round 4 (some .int) [(0, 9, 12, 13)] ∈ TBL := tb_mem (tb_5 (List.mem_of_getElem? (i := 223) rfl)) rfl
theorem mk_5_224 : Cond.methodLink RL 73 yX9_round ∈ TBL := tb_mem (tb_5 (List.mem_of_getElem? (i := 224) rfl)) rfl
theorem mk_5_225 : Cond.instanceMethod yX9_round ∈ TBL := tb_mem (tb_5 (List.mem_of_getElem? (i := 225) rfl)) rfl
theorem mk_5_226 : Cond.selects RX9 yX9_round yX9_round ∈ TBL := tb_mem (tb_5 (List.mem_of_getElem? (i := 226) rfl)) rfl
theorem mk_5_227 : Cond.code yX9_round cX9_round 6 (some .int) ∈ TBL := tb_mem (tb_5 (List.mem_of_getElem? (i := 227) rfl)) rfl
theorem mk_5_228 : Cond.methodLink RL 173 yL_basket ∈ TBL := tb_mem (tb_5 (List.mem_of_getElem? (i := 228) rfl)) rfl
theorem mk_5_229 : Cond.static yL_basket ∈ TBL := tb_mem (tb_5 (List.mem_of_getElem? (i := 229) rfl)) rfl
theorem mk_5_230 : Cond.codeWith yL_basket cL_basket 5 (some .int) [(0, 10, 13, 13)] ∈ TBL := tb_mem (tb_5 (List.mem_of_getElem? (i := 230) rfl)) rfl
theorem mk_5_231 : Cond.methodLink RL 76 yX9_basket ∈ TBL := tb_mem (tb_5 (List.mem_of_getElem? (i := 231) rfl)) rfl
theorem mk_5_232 : Cond.instanceMethod yX9_basket ∈ TBL := tb_mem (tb_5 (List.mem_of_getElem? (i := 232) rfl)) rfl
theorem mk_5_233 : Cond.selects RX9 yX9_basket yX9_basket ∈ TBL := tb_mem (tb_5 (List.mem_of_getElem? (i := 233) rfl)) rfl
theorem mk_5_234 : Cond.code yX9_basket cX9_basket 4 (some .int) ∈ TBL := tb_mem (tb_5 (List.mem_of_getElem? (i := 234) rfl)) rfl
theorem mk_5_235 : Cond.methodLink RX9 289 yX0_bestPrice ∈ TBL := tb_mem (tb_5 (List.mem_of_getElem? (i := 235) rfl)) rfl
theorem mk_5_236 : Cond.instanceMethod yX0_bestPrice ∈ TBL := tb_mem (tb_5 (List.mem_of_getElem? (i := 236) rfl)) rfl
theorem mk_5_237 : Cond.selects RX0 yX0_bestPrice yX0_bestPrice ∈ TBL := tb_mem (tb_5 (List.mem_of_getElem? (i := 237) rfl)) rfl
theorem mk_5_238 : Cond.code yX0_bestPrice cX0_bestPrice 5 (some .int) ∈ TBL := tb_mem (tb_5 (List.mem_of_getElem? (i := 238) rfl)) rfl
theorem mk_5_239 : Cond.methodLink RX0 31 yX2_fill ∈ TBL := tb_mem (tb_5 (List.mem_of_getElem? (i := 239) rfl)) rfl
theorem mk_6_0 : Cond.methodLink RX0 34 yX2_put ∈ TBL := tb_mem (tb_6 (List.mem_of_getElem? (i := 0) rfl)) rfl
theorem mk_6_1 : Cond.methodLink RX0 44 yX5_lies ∈ TBL := tb_mem (tb_6 (List.mem_of_getElem? (i := 1) rfl)) rfl
theorem mk_6_2 : Cond.methodLink RX0 50 yX7_ofSleeve ∈ TBL := tb_mem (tb_6 (List.mem_of_getElem? (i := 2) rfl)) rfl
theorem mk_6_3 : Cond.methodLink RX0 54 yJ9_min_7cf53 ∈ TBL := tb_mem (tb_6 (List.mem_of_getElem? (i := 3) rfl)) rfl
theorem mk_6_4 : Cond.methodLink RX0 59 yX0_offer ∈ TBL := tb_mem (tb_6 (List.mem_of_getElem? (i := 4) rfl)) rfl
theorem mk_6_6 : Cond.instanceMethod yX0_offer ∈ TBL := tb_mem (tb_6 (List.mem_of_getElem? (i := 6) rfl)) rfl
theorem mk_6_7 : Cond.code yX0_offer cX0_offer 7 none ∈ TBL := tb_mem (tb_6 (List.mem_of_getElem? (i := 7) rfl)) rfl
theorem mk_6_8 : Cond.methodLink RX0 62 yX2_at ∈ TBL := tb_mem (tb_6 (List.mem_of_getElem? (i := 8) rfl)) rfl
theorem mk_6_9 : Cond.methodLink RL 184 yL_often ∈ TBL := tb_mem (tb_6 (List.mem_of_getElem? (i := 9) rfl)) rfl
theorem mk_6_10 : Cond.static yL_often ∈ TBL := tb_mem (tb_6 (List.mem_of_getElem? (i := 10) rfl)) rfl
theorem mk_6_11 : Cond.codeWith yL_often cL_often 7 (some .int) [(0, 14, 17, 13)] ∈ TBL := tb_mem (tb_6 (List.mem_of_getElem? (i := 11) rfl)) rfl
theorem mk_6_12 : Cond.methodLink RL 79 yX9_often ∈ TBL := tb_mem (tb_6 (List.mem_of_getElem? (i := 12) rfl)) rfl
theorem mk_6_13 : Cond.instanceMethod yX9_often ∈ TBL := tb_mem (tb_6 (List.mem_of_getElem? (i := 13) rfl)) rfl
theorem mk_6_14 : Cond.selects RX9 yX9_often yX9_often ∈ TBL := tb_mem (tb_6 (List.mem_of_getElem? (i := 14) rfl)) rfl
theorem mk_6_15 : Cond.code yX9_often cX9_often 7 (some .int) ∈ TBL := tb_mem (tb_6 (List.mem_of_getElem? (i := 15) rfl)) rfl
theorem mk_6_16 : Cond.methodLink RX9 298 yX9_sortingCost ∈ TBL := tb_mem (tb_6 (List.mem_of_getElem? (i := 16) rfl)) rfl
theorem mk_6_17 : Cond.static yX9_sortingCost ∈ TBL := tb_mem (tb_6 (List.mem_of_getElem? (i := 17) rfl)) rfl
theorem mk_6_18 : Cond.code yX9_sortingCost cX9_sortingCost 4 (some .long) ∈ TBL := tb_mem (tb_6 (List.mem_of_getElem? (i := 18) rfl)) rfl
theorem mk_6_19 : Cond.constantLong RX9 302 (2) ∈ TBL := tb_mem (tb_6 (List.mem_of_getElem? (i := 19) rfl)) rfl
theorem mk_6_20 : Cond.methodLink RL 199 yL_moves ∈ TBL := tb_mem (tb_6 (List.mem_of_getElem? (i := 20) rfl)) rfl
theorem mk_6_21 : Cond.static yL_moves ∈ TBL := tb_mem (tb_6 (List.mem_of_getElem? (i := 21) rfl)) rfl
theorem mk_6_22 : Cond.codeWith yL_moves cL_moves 4 (some .int) [(0, 9, 12, 13)] ∈ TBL := tb_mem (tb_6 (List.mem_of_getElem? (i := 22) rfl)) rfl
theorem mk_6_23 : Cond.methodLink RL 82 yX9_moves ∈ TBL := tb_mem (tb_6 (List.mem_of_getElem? (i := 23) rfl)) rfl
theorem mk_6_24 : Cond.instanceMethod yX9_moves ∈ TBL := tb_mem (tb_6 (List.mem_of_getElem? (i := 24) rfl)) rfl
theorem mk_6_25 : Cond.selects RX9 yX9_moves yX9_moves ∈ TBL := tb_mem (tb_6 (List.mem_of_getElem? (i := 25) rfl)) rfl
theorem mk_6_26 : Cond.code yX9_moves cX9_moves 4 (some .int) ∈ TBL := tb_mem (tb_6 (List.mem_of_getElem? (i := 26) rfl)) rfl
theorem mk_6_27 : Cond.methodLink RX9 310 yJ6_bitCount_0f7a4 ∈ TBL := tb_mem (tb_6 (List.mem_of_getElem? (i := 27) rfl)) rfl
theorem mk_6_28 : Cond.static yJ6_bitCount_0f7a4 ∈ TBL := tb_mem (tb_6 (List.mem_of_getElem? (i := 28) rfl)) rfl
theorem mk_6_29 : Cond.code yJ6_bitCount_0f7a4 cJ6_bitCount_0f7a4 1 (some .int) ∈ TBL := tb_mem (tb_6 (List.mem_of_getElem? (i := 29) rfl)) rfl
theorem mk_6_30 : Cond.constant RJ6 265 (1431655765) ∈ TBL := tb_mem (tb_6 (List.mem_of_getElem? (i := 30) rfl)) rfl
theorem mk_6_31 : Cond.constant RJ6 266 (858993459) ∈ TBL := tb_mem (tb_6 (List.mem_of_getElem? (i := 31) rfl)) rfl
theorem mk_6_32 : Cond.constant RJ6 267 (252645135) ∈ TBL := tb_mem (tb_6 (List.mem_of_getElem? (i := 32) rfl)) rfl
theorem mk_6_33 : Cond.methodLink RX9 315 yX9_standByNumber ∈ TBL := tb_mem (tb_6 (List.mem_of_getElem? (i := 33) rfl)) rfl
theorem mk_6_35 : Cond.instanceMethod yX9_standByNumber ∈ TBL := tb_mem (tb_6 (List.mem_of_getElem? (i := 35) rfl)) rfl
theorem mk_6_36 : Cond.code yX9_standByNumber cX9_standByNumber 5 (some .boolean) ∈ TBL := tb_mem (tb_6 (List.mem_of_getElem? (i := 36) rfl)) rfl
theorem mk_6_37 : Cond.methodLink RX9 318 yX9_hasBit ∈ TBL := tb_mem (tb_6 (List.mem_of_getElem? (i := 37) rfl)) rfl
theorem mk_6_38 : Cond.methodLink RL 202 yL_rests ∈ TBL := tb_mem (tb_6 (List.mem_of_getElem? (i := 38) rfl)) rfl
theorem mk_6_39 : Cond.static yL_rests ∈ TBL := tb_mem (tb_6 (List.mem_of_getElem? (i := 39) rfl)) rfl
theorem mk_6_40 : Cond.codeWith yL_rests cL_rests 8 (some .int) [(0, 16, 19, 13)] ∈ TBL := tb_mem (tb_6 (List.mem_of_getElem? (i := 40) rfl)) rfl
theorem mk_6_41 : Cond.methodLink RL 85 yX9_rests ∈ TBL := tb_mem (tb_6 (List.mem_of_getElem? (i := 41) rfl)) rfl
theorem mk_6_42 : Cond.instanceMethod yX9_rests ∈ TBL := tb_mem (tb_6 (List.mem_of_getElem? (i := 42) rfl)) rfl
theorem mk_6_43 : Cond.selects RX9 yX9_rests yX9_rests ∈ TBL := tb_mem (tb_6 (List.mem_of_getElem? (i := 43) rfl)) rfl
theorem mk_6_44 : Cond.code yX9_rests cX9_rests 6 (some .int) ∈ TBL := tb_mem (tb_6 (List.mem_of_getElem? (i := 44) rfl)) rfl
theorem mk_6_45 : Cond.methodLink RX9 321 yX4_begin ∈ TBL := tb_mem (tb_6 (List.mem_of_getElem? (i := 45) rfl)) rfl
theorem mk_6_46 : Cond.instanceMethod yX4_begin ∈ TBL := tb_mem (tb_6 (List.mem_of_getElem? (i := 46) rfl)) rfl
theorem mk_6_47 : Cond.selects RX4 yX4_begin yX4_begin ∈ TBL := tb_mem (tb_6 (List.mem_of_getElem? (i := 47) rfl)) rfl
theorem mk_6_48 : Cond.code yX4_begin cX4_begin 5 none ∈ TBL := tb_mem (tb_6 (List.mem_of_getElem? (i := 48) rfl)) rfl
theorem mk_6_49 : Cond.methodLink RX9 323 yX4_findRests ∈ TBL := tb_mem (tb_6 (List.mem_of_getElem? (i := 49) rfl)) rfl
theorem mk_6_50 : Cond.instanceMethod yX4_findRests ∈ TBL := tb_mem (tb_6 (List.mem_of_getElem? (i := 50) rfl)) rfl
theorem mk_6_51 : Cond.selects RX4 yX4_findRests yX4_findRests ∈ TBL := tb_mem (tb_6 (List.mem_of_getElem? (i := 51) rfl)) rfl
theorem mk_6_52 : Cond.code yX4_findRests cX4_findRests 3 none ∈ TBL := tb_mem (tb_6 (List.mem_of_getElem? (i := 52) rfl)) rfl
theorem mk_6_53 : Cond.methodLink RX4 39 yX4_choose ∈ TBL := tb_mem (tb_6 (List.mem_of_getElem? (i := 53) rfl)) rfl
theorem mk_6_55 : Cond.instanceMethod yX4_choose ∈ TBL := tb_mem (tb_6 (List.mem_of_getElem? (i := 55) rfl)) rfl
theorem mk_6_56 : Cond.code yX4_choose cX4_choose 4 none ∈ TBL := tb_mem (tb_6 (List.mem_of_getElem? (i := 56) rfl)) rfl
theorem mk_6_57 : Cond.methodLink RX4 50 yX2_put ∈ TBL := tb_mem (tb_6 (List.mem_of_getElem? (i := 57) rfl)) rfl
theorem mk_6_58 : Cond.methodLink RX4 42 yX4_isRest ∈ TBL := tb_mem (tb_6 (List.mem_of_getElem? (i := 58) rfl)) rfl
theorem mk_6_60 : Cond.instanceMethod yX4_isRest ∈ TBL := tb_mem (tb_6 (List.mem_of_getElem? (i := 60) rfl)) rfl
theorem mk_6_61 : Cond.code yX4_isRest cX4_isRest 2 (some .boolean) ∈ TBL := tb_mem (tb_6 (List.mem_of_getElem? (i := 61) rfl)) rfl
theorem mk_6_62 : Cond.methodLink RX4 58 yX4_wouldChange ∈ TBL := tb_mem (tb_6 (List.mem_of_getElem? (i := 62) rfl)) rfl
theorem mk_6_64 : Cond.instanceMethod yX4_wouldChange ∈ TBL := tb_mem (tb_6 (List.mem_of_getElem? (i := 64) rfl)) rfl
theorem mk_6_65 : Cond.code yX4_wouldChange cX4_wouldChange 6 (some .boolean) ∈ TBL := tb_mem (tb_6 (List.mem_of_getElem? (i := 65) rfl)) rfl
theorem mk_6_66 : Cond.methodLink RX4 54 yX2_at ∈ TBL := tb_mem (tb_6 (List.mem_of_getElem? (i := 66) rfl)) rfl
theorem mk_6_67 : Cond.methodLink RX4 62 yX4_gainOf ∈ TBL := tb_mem (tb_6 (List.mem_of_getElem? (i := 67) rfl)) rfl
theorem mk_6_69 : Cond.instanceMethod yX4_gainOf ∈ TBL := tb_mem (tb_6 (List.mem_of_getElem? (i := 69) rfl)) rfl
theorem mk_6_70 : Cond.code yX4_gainOf cX4_gainOf 5 (some .int) ∈ TBL := tb_mem (tb_6 (List.mem_of_getElem? (i := 70) rfl)) rfl
theorem mk_6_71 : Cond.methodLink RX4 46 yX4_digits ∈ TBL := tb_mem (tb_6 (List.mem_of_getElem? (i := 71) rfl)) rfl
theorem mk_6_73 : Cond.instanceMethod yX4_digits ∈ TBL := tb_mem (tb_6 (List.mem_of_getElem? (i := 73) rfl)) rfl
theorem mk_6_74 : Cond.code yX4_digits cX4_digits 3 (some .int) ∈ TBL := tb_mem (tb_6 (List.mem_of_getElem? (i := 74) rfl)) rfl
theorem mk_6_75 : Cond.methodLink RL 103 yX10_thrown ∈ TBL := tb_mem (tb_6 (List.mem_of_getElem? (i := 75) rfl)) rfl
theorem mk_6_76 : Cond.instanceMethod yX10_thrown ∈ TBL := tb_mem (tb_6 (List.mem_of_getElem? (i := 76) rfl)) rfl
theorem mk_6_77 : Cond.selects RX10 yX10_thrown yX10_thrown ∈ TBL := tb_mem (tb_6 (List.mem_of_getElem? (i := 77) rfl)) rfl
theorem mk_6_78 : Cond.code yX10_thrown cX10_thrown 1 (some .int) ∈ TBL := tb_mem (tb_6 (List.mem_of_getElem? (i := 78) rfl)) rfl
theorem mk_6_79 : Cond.classLink RL 90 RX10 ∈ TBL := tb_mem (tb_6 (List.mem_of_getElem? (i := 79) rfl)) rfl
theorem mk_6_80 : Cond.instantiable RX10 64 ∈ TBL := tb_mem (tb_6 (List.mem_of_getElem? (i := 80) rfl)) rfl
theorem mk_6_81 : Cond.methodLink RL 92 yX10_init ∈ TBL := tb_mem (tb_6 (List.mem_of_getElem? (i := 81) rfl)) rfl
theorem mk_6_82 : Cond.instanceMethod yX10_init ∈ TBL := tb_mem (tb_6 (List.mem_of_getElem? (i := 82) rfl)) rfl
theorem mk_6_83 : Cond.code yX10_init cX10_init 1 none ∈ TBL := tb_mem (tb_6 (List.mem_of_getElem? (i := 83) rfl)) rfl
theorem mk_6_84 : Cond.methodLink RX10 11 ⟨"java/lang/Object", "<init>", "()V"⟩ ∈ TBL := tb_mem (tb_6 (List.mem_of_getElem? (i := 84) rfl)) rfl
theorem mk_6_85 : Cond.methodLink RX10 138 yX10_clears ∈ TBL := tb_mem (tb_6 (List.mem_of_getElem? (i := 85) rfl)) rfl
theorem mk_6_87 : Cond.instanceMethod yX10_clears ∈ TBL := tb_mem (tb_6 (List.mem_of_getElem? (i := 87) rfl)) rfl
theorem mk_6_88 : Cond.code yX10_clears cX10_clears 2 none ∈ TBL := tb_mem (tb_6 (List.mem_of_getElem? (i := 88) rfl)) rfl
theorem mk_6_89 : Cond.methodLink RX10 141 yX10_sets ∈ TBL := tb_mem (tb_6 (List.mem_of_getElem? (i := 89) rfl)) rfl
theorem mk_6_91 : Cond.instanceMethod yX10_sets ∈ TBL := tb_mem (tb_6 (List.mem_of_getElem? (i := 91) rfl)) rfl
theorem mk_6_92 : Cond.code yX10_sets cX10_sets 3 none ∈ TBL := tb_mem (tb_6 (List.mem_of_getElem? (i := 92) rfl)) rfl
theorem mk_6_93 : Cond.methodLink RX10 211 yX10_comesTo ∈ TBL := tb_mem (tb_6 (List.mem_of_getElem? (i := 93) rfl)) rfl
theorem mk_6_95 : Cond.instanceMethod yX10_comesTo ∈ TBL := tb_mem (tb_6 (List.mem_of_getElem? (i := 95) rfl)) rfl
theorem mk_6_96 : Cond.code yX10_comesTo cX10_comesTo 3 none ∈ TBL := tb_mem (tb_6 (List.mem_of_getElem? (i := 96) rfl)) rfl
theorem mk_6_97 : Cond.fieldLink RX10 3 "FlickedCratesModel" "thrown" "I" ∈ TBL := tb_mem (tb_6 (List.mem_of_getElem? (i := 97) rfl)) rfl
theorem mk_6_98 : Cond.fieldLink RX10 7 "FlickedCratesModel" "refused" "[I" ∈ TBL := tb_mem (tb_6 (List.mem_of_getElem? (i := 98) rfl)) rfl
theorem mk_6_99 : Cond.fieldLink RX10 144 "FlickedCratesModel" "taped" "I" ∈ TBL := tb_mem (tb_6 (List.mem_of_getElem? (i := 99) rfl)) rfl
theorem mk_6_100 : Cond.fieldLink RX10 156 "FlickedCratesModel" "size" "I" ∈ TBL := tb_mem (tb_6 (List.mem_of_getElem? (i := 100) rfl)) rfl
theorem mk_6_101 : Cond.fieldLink RX10 153 "FlickedCratesModel" "at" "I" ∈ TBL := tb_mem (tb_6 (List.mem_of_getElem? (i := 101) rfl)) rfl
theorem mk_6_102 : Cond.fieldLink RX10 147 "FlickedCratesModel" "bad" "I" ∈ TBL := tb_mem (tb_6 (List.mem_of_getElem? (i := 102) rfl)) rfl
theorem mk_6_103 : Cond.fieldLink RX10 150 "FlickedCratesModel" "badKind" "I" ∈ TBL := tb_mem (tb_6 (List.mem_of_getElem? (i := 103) rfl)) rfl
theorem mk_6_104 : Cond.fieldLink RX10 187 "FlickedCratesModel" "opens" "I" ∈ TBL := tb_mem (tb_6 (List.mem_of_getElem? (i := 104) rfl)) rfl
theorem mk_6_105 : Cond.fieldLink RX10 17 "FlickedCratesModel" "faultAt" "I" ∈ TBL := tb_mem (tb_6 (List.mem_of_getElem? (i := 105) rfl)) rfl
theorem mk_6_106 : Cond.fieldLink RX10 20 "FlickedCratesModel" "tape" "[I" ∈ TBL := tb_mem (tb_6 (List.mem_of_getElem? (i := 106) rfl)) rfl
theorem mk_6_107 : Cond.fieldLink RX10 23 "FlickedCratesModel" "letterOf" "[I" ∈ TBL := tb_mem (tb_6 (List.mem_of_getElem? (i := 107) rfl)) rfl
theorem mk_6_108 : Cond.fieldLink RX10 26 "FlickedCratesModel" "sleeve" "[I" ∈ TBL := tb_mem (tb_6 (List.mem_of_getElem? (i := 108) rfl)) rfl
theorem mk_6_109 : Cond.fieldLink RX10 29 "FlickedCratesModel" "looker" "[I" ∈ TBL := tb_mem (tb_6 (List.mem_of_getElem? (i := 109) rfl)) rfl
theorem mk_6_110 : Cond.fieldLink RX10 32 "FlickedCratesModel" "missed" "[I" ∈ TBL := tb_mem (tb_6 (List.mem_of_getElem? (i := 110) rfl)) rfl
theorem mk_6_111 : Cond.fieldLink RX10 35 "FlickedCratesModel" "weight" "[I" ∈ TBL := tb_mem (tb_6 (List.mem_of_getElem? (i := 111) rfl)) rfl
theorem mk_6_112 : Cond.fieldLink RX10 38 "FlickedCratesModel" "liesAt" "[I" ∈ TBL := tb_mem (tb_6 (List.mem_of_getElem? (i := 112) rfl)) rfl
theorem mk_6_113 : Cond.fieldLink RX10 41 "FlickedCratesModel" "discAt" "[I" ∈ TBL := tb_mem (tb_6 (List.mem_of_getElem? (i := 113) rfl)) rfl
theorem mk_6_114 : Cond.fieldLink RX10 44 "FlickedCratesModel" "newLetter" "[I" ∈ TBL := tb_mem (tb_6 (List.mem_of_getElem? (i := 114) rfl)) rfl
theorem mk_6_115 : Cond.fieldLink RX10 47 "FlickedCratesModel" "newSleeve" "[I" ∈ TBL := tb_mem (tb_6 (List.mem_of_getElem? (i := 115) rfl)) rfl
theorem mk_6_116 : Cond.fieldLink RX10 50 "FlickedCratesModel" "newLooker" "[I" ∈ TBL := tb_mem (tb_6 (List.mem_of_getElem? (i := 116) rfl)) rfl
theorem mk_6_117 : Cond.fieldLink RX10 53 "FlickedCratesModel" "newMissed" "[I" ∈ TBL := tb_mem (tb_6 (List.mem_of_getElem? (i := 117) rfl)) rfl
theorem mk_6_118 : Cond.fieldLink RX10 56 "FlickedCratesModel" "newWeight" "[I" ∈ TBL := tb_mem (tb_6 (List.mem_of_getElem? (i := 118) rfl)) rfl
theorem mk_6_119 : Cond.fieldLink RX10 59 "FlickedCratesModel" "newLies" "[I" ∈ TBL := tb_mem (tb_6 (List.mem_of_getElem? (i := 119) rfl)) rfl
theorem mk_6_120 : Cond.fieldLink RX10 62 "FlickedCratesModel" "newDisc" "[I" ∈ TBL := tb_mem (tb_6 (List.mem_of_getElem? (i := 120) rfl)) rfl
theorem mk_6_121 : Cond.fieldLink RX10 202 "FlickedCratesModel" "crates" "I" ∈ TBL := tb_mem (tb_6 (List.mem_of_getElem? (i := 121) rfl)) rfl
theorem mk_6_122 : Cond.fieldLink RX10 205 "FlickedCratesModel" "sleeves" "I" ∈ TBL := tb_mem (tb_6 (List.mem_of_getElem? (i := 122) rfl)) rfl
theorem mk_6_123 : Cond.fieldLink RX10 208 "FlickedCratesModel" "lookers" "I" ∈ TBL := tb_mem (tb_6 (List.mem_of_getElem? (i := 123) rfl)) rfl
theorem mk_6_124 : Cond.fieldLink RX10 65 "FlickedCratesModel" "stop" "I" ∈ TBL := tb_mem (tb_6 (List.mem_of_getElem? (i := 124) rfl)) rfl
theorem mk_6_125 : Cond.fieldLink RX10 190 "FlickedCratesModel" "newCrates" "I" ∈ TBL := tb_mem (tb_6 (List.mem_of_getElem? (i := 125) rfl)) rfl
theorem mk_6_126 : Cond.fieldLink RX10 193 "FlickedCratesModel" "newSleeves" "I" ∈ TBL := tb_mem (tb_6 (List.mem_of_getElem? (i := 126) rfl)) rfl
theorem mk_6_127 : Cond.fieldLink RX10 196 "FlickedCratesModel" "newLookers" "I" ∈ TBL := tb_mem (tb_6 (List.mem_of_getElem? (i := 127) rfl)) rfl
theorem mk_6_128 : Cond.fieldLink RX10 199 "FlickedCratesModel" "newStop" "I" ∈ TBL := tb_mem (tb_6 (List.mem_of_getElem? (i := 128) rfl)) rfl
theorem mk_6_129 : Cond.fieldLink RX10 68 "FlickedCratesModel" "many" "[I" ∈ TBL := tb_mem (tb_6 (List.mem_of_getElem? (i := 129) rfl)) rfl
theorem mk_6_130 : Cond.fieldLink RX10 71 "FlickedCratesModel" "row" "[I" ∈ TBL := tb_mem (tb_6 (List.mem_of_getElem? (i := 130) rfl)) rfl
theorem mk_6_131 : Cond.fieldLink RX10 74 "FlickedCratesModel" "standing" "[I" ∈ TBL := tb_mem (tb_6 (List.mem_of_getElem? (i := 131) rfl)) rfl
theorem mk_6_132 : Cond.fieldLink RX10 77 "FlickedCratesModel" "stands" "[I" ∈ TBL := tb_mem (tb_6 (List.mem_of_getElem? (i := 132) rfl)) rfl
theorem mk_6_133 : Cond.fieldLink RX10 80 "FlickedCratesModel" "done" "[I" ∈ TBL := tb_mem (tb_6 (List.mem_of_getElem? (i := 133) rfl)) rfl
theorem mk_6_134 : Cond.fieldLink RX10 83 "FlickedCratesModel" "money" "[I" ∈ TBL := tb_mem (tb_6 (List.mem_of_getElem? (i := 134) rfl)) rfl
theorem mk_6_135 : Cond.fieldLink RX10 86 "FlickedCratesModel" "bought" "[I" ∈ TBL := tb_mem (tb_6 (List.mem_of_getElem? (i := 135) rfl)) rfl
theorem mk_6_136 : Cond.fieldLink RX10 89 "FlickedCratesModel" "paid" "[I" ∈ TBL := tb_mem (tb_6 (List.mem_of_getElem? (i := 136) rfl)) rfl
theorem mk_6_137 : Cond.fieldLink RX10 92 "FlickedCratesModel" "waited" "[I" ∈ TBL := tb_mem (tb_6 (List.mem_of_getElem? (i := 137) rfl)) rfl
theorem mk_6_138 : Cond.fieldLink RX10 95 "FlickedCratesModel" "goneAt" "[I" ∈ TBL := tb_mem (tb_6 (List.mem_of_getElem? (i := 138) rfl)) rfl
theorem mk_6_139 : Cond.fieldLink RX10 98 "FlickedCratesModel" "toLeft" "[I" ∈ TBL := tb_mem (tb_6 (List.mem_of_getElem? (i := 139) rfl)) rfl
theorem mk_6_140 : Cond.fieldLink RX10 101 "FlickedCratesModel" "heldUp" "[I" ∈ TBL := tb_mem (tb_6 (List.mem_of_getElem? (i := 140) rfl)) rfl
theorem mk_6_141 : Cond.fieldLink RX10 104 "FlickedCratesModel" "keptRow" "[I" ∈ TBL := tb_mem (tb_6 (List.mem_of_getElem? (i := 141) rfl)) rfl
theorem mk_6_142 : Cond.fieldLink RX10 107 "FlickedCratesModel" "keptMany" "[I" ∈ TBL := tb_mem (tb_6 (List.mem_of_getElem? (i := 142) rfl)) rfl
theorem mk_6_143 : Cond.fieldLink RX10 110 "FlickedCratesModel" "keptLies" "[I" ∈ TBL := tb_mem (tb_6 (List.mem_of_getElem? (i := 143) rfl)) rfl
theorem mk_6_144 : Cond.fieldLink RX10 305 "FlickedCratesModel" "seed" "I" ∈ TBL := tb_mem (tb_6 (List.mem_of_getElem? (i := 144) rfl)) rfl
theorem mk_6_145 : Cond.fieldLink RX10 319 "FlickedCratesModel" "soldNow" "I" ∈ TBL := tb_mem (tb_6 (List.mem_of_getElem? (i := 145) rfl)) rfl
theorem mk_6_146 : Cond.fieldLink RX10 325 "FlickedCratesModel" "heldNow" "I" ∈ TBL := tb_mem (tb_6 (List.mem_of_getElem? (i := 146) rfl)) rfl
theorem mk_6_147 : Cond.fieldLink RX10 315 "FlickedCratesModel" "blind" "Z" ∈ TBL := tb_mem (tb_6 (List.mem_of_getElem? (i := 147) rfl)) rfl
theorem mk_6_148 : Cond.fieldLink RX10 113 "FlickedCratesModel" "part" "[J" ∈ TBL := tb_mem (tb_6 (List.mem_of_getElem? (i := 148) rfl)) rfl
theorem mk_6_149 : Cond.fieldLink RX10 117 "FlickedCratesModel" "newPart" "[J" ∈ TBL := tb_mem (tb_6 (List.mem_of_getElem? (i := 149) rfl)) rfl
theorem mk_6_150 : Cond.fieldLink RX10 362 "FlickedCratesModel" "allParts" "J" ∈ TBL := tb_mem (tb_6 (List.mem_of_getElem? (i := 150) rfl)) rfl
theorem mk_6_151 : Cond.fieldLink RX10 120 "FlickedCratesModel" "ordered" "[I" ∈ TBL := tb_mem (tb_6 (List.mem_of_getElem? (i := 151) rfl)) rfl
theorem mk_6_152 : Cond.fieldLink RX10 388 "FlickedCratesModel" "bestRound" "I" ∈ TBL := tb_mem (tb_6 (List.mem_of_getElem? (i := 152) rfl)) rfl
theorem mk_6_153 : Cond.fieldLink RX10 391 "FlickedCratesModel" "bestWaited" "I" ∈ TBL := tb_mem (tb_6 (List.mem_of_getElem? (i := 153) rfl)) rfl
theorem mk_6_154 : Cond.fieldLink RX10 123 "FlickedCratesModel" "basket" "[J" ∈ TBL := tb_mem (tb_6 (List.mem_of_getElem? (i := 154) rfl)) rfl
theorem mk_6_155 : Cond.fieldLink RX10 126 "FlickedCratesModel" "disc" "[I" ∈ TBL := tb_mem (tb_6 (List.mem_of_getElem? (i := 155) rfl)) rfl
theorem mk_6_156 : Cond.fieldLink RX10 129 "FlickedCratesModel" "change" "[I" ∈ TBL := tb_mem (tb_6 (List.mem_of_getElem? (i := 156) rfl)) rfl
theorem mk_6_157 : Cond.fieldLink RX10 402 "FlickedCratesModel" "changeMany" "I" ∈ TBL := tb_mem (tb_6 (List.mem_of_getElem? (i := 157) rfl)) rfl
theorem mk_6_158 : Cond.fieldLink RX10 132 "FlickedCratesModel" "hour" "[I" ∈ TBL := tb_mem (tb_6 (List.mem_of_getElem? (i := 158) rfl)) rfl
theorem mk_6_159 : Cond.fieldLink RX10 135 "FlickedCratesModel" "image" "[I" ∈ TBL := tb_mem (tb_6 (List.mem_of_getElem? (i := 159) rfl)) rfl
theorem mk_6_160 : Cond.fieldLink RX10 214 "FlickedCratesModel" "images" "I" ∈ TBL := tb_mem (tb_6 (List.mem_of_getElem? (i := 160) rfl)) rfl
theorem mk_6_161 : Cond.lays "FlickedCratesModel" "FlickedCratesModel" "thrown" "I" ∈ TBL := tb_mem (tb_6 (List.mem_of_getElem? (i := 161) rfl)) rfl
theorem mk_6_163 : Cond.laysFinal "FlickedCratesModel" "FlickedCratesModel" "refused" "[I" ∈ TBL := tb_mem (tb_6 (List.mem_of_getElem? (i := 163) rfl)) rfl
theorem mk_6_165 : Cond.lays "FlickedCratesModel" "FlickedCratesModel" "taped" "I" ∈ TBL := tb_mem (tb_6 (List.mem_of_getElem? (i := 165) rfl)) rfl
theorem mk_6_167 : Cond.lays "FlickedCratesModel" "FlickedCratesModel" "size" "I" ∈ TBL := tb_mem (tb_6 (List.mem_of_getElem? (i := 167) rfl)) rfl
theorem mk_6_169 : Cond.lays "FlickedCratesModel" "FlickedCratesModel" "at" "I" ∈ TBL := tb_mem (tb_6 (List.mem_of_getElem? (i := 169) rfl)) rfl
theorem mk_6_171 : Cond.lays "FlickedCratesModel" "FlickedCratesModel" "bad" "I" ∈ TBL := tb_mem (tb_6 (List.mem_of_getElem? (i := 171) rfl)) rfl
theorem mk_6_173 : Cond.lays "FlickedCratesModel" "FlickedCratesModel" "badKind" "I" ∈ TBL := tb_mem (tb_6 (List.mem_of_getElem? (i := 173) rfl)) rfl
theorem mk_6_175 : Cond.lays "FlickedCratesModel" "FlickedCratesModel" "opens" "I" ∈ TBL := tb_mem (tb_6 (List.mem_of_getElem? (i := 175) rfl)) rfl
theorem mk_6_177 : Cond.lays "FlickedCratesModel" "FlickedCratesModel" "faultAt" "I" ∈ TBL := tb_mem (tb_6 (List.mem_of_getElem? (i := 177) rfl)) rfl
theorem mk_6_179 : Cond.laysFinal "FlickedCratesModel" "FlickedCratesModel" "tape" "[I" ∈ TBL := tb_mem (tb_6 (List.mem_of_getElem? (i := 179) rfl)) rfl
theorem mk_6_181 : Cond.laysFinal "FlickedCratesModel" "FlickedCratesModel" "letterOf" "[I" ∈ TBL := tb_mem (tb_6 (List.mem_of_getElem? (i := 181) rfl)) rfl
theorem mk_6_183 : Cond.laysFinal "FlickedCratesModel" "FlickedCratesModel" "sleeve" "[I" ∈ TBL := tb_mem (tb_6 (List.mem_of_getElem? (i := 183) rfl)) rfl
theorem mk_6_185 : Cond.laysFinal "FlickedCratesModel" "FlickedCratesModel" "looker" "[I" ∈ TBL := tb_mem (tb_6 (List.mem_of_getElem? (i := 185) rfl)) rfl
theorem mk_6_187 : Cond.laysFinal "FlickedCratesModel" "FlickedCratesModel" "missed" "[I" ∈ TBL := tb_mem (tb_6 (List.mem_of_getElem? (i := 187) rfl)) rfl
theorem mk_6_189 : Cond.laysFinal "FlickedCratesModel" "FlickedCratesModel" "weight" "[I" ∈ TBL := tb_mem (tb_6 (List.mem_of_getElem? (i := 189) rfl)) rfl
theorem mk_6_191 : Cond.laysFinal "FlickedCratesModel" "FlickedCratesModel" "liesAt" "[I" ∈ TBL := tb_mem (tb_6 (List.mem_of_getElem? (i := 191) rfl)) rfl
theorem mk_6_193 : Cond.laysFinal "FlickedCratesModel" "FlickedCratesModel" "discAt" "[I" ∈ TBL := tb_mem (tb_6 (List.mem_of_getElem? (i := 193) rfl)) rfl
theorem mk_6_195 : Cond.laysFinal "FlickedCratesModel" "FlickedCratesModel" "newLetter" "[I" ∈ TBL := tb_mem (tb_6 (List.mem_of_getElem? (i := 195) rfl)) rfl
theorem mk_6_197 : Cond.laysFinal "FlickedCratesModel" "FlickedCratesModel" "newSleeve" "[I" ∈ TBL := tb_mem (tb_6 (List.mem_of_getElem? (i := 197) rfl)) rfl
theorem mk_6_199 : Cond.laysFinal "FlickedCratesModel" "FlickedCratesModel" "newLooker" "[I" ∈ TBL := tb_mem (tb_6 (List.mem_of_getElem? (i := 199) rfl)) rfl
theorem mk_6_201 : Cond.laysFinal "FlickedCratesModel" "FlickedCratesModel" "newMissed" "[I" ∈ TBL := tb_mem (tb_6 (List.mem_of_getElem? (i := 201) rfl)) rfl
theorem mk_6_203 : Cond.laysFinal "FlickedCratesModel" "FlickedCratesModel" "newWeight" "[I" ∈ TBL := tb_mem (tb_6 (List.mem_of_getElem? (i := 203) rfl)) rfl
theorem mk_6_205 : Cond.laysFinal "FlickedCratesModel" "FlickedCratesModel" "newLies" "[I" ∈ TBL := tb_mem (tb_6 (List.mem_of_getElem? (i := 205) rfl)) rfl
theorem mk_6_207 : Cond.laysFinal "FlickedCratesModel" "FlickedCratesModel" "newDisc" "[I" ∈ TBL := tb_mem (tb_6 (List.mem_of_getElem? (i := 207) rfl)) rfl
theorem mk_6_209 : Cond.lays "FlickedCratesModel" "FlickedCratesModel" "crates" "I" ∈ TBL := tb_mem (tb_6 (List.mem_of_getElem? (i := 209) rfl)) rfl
theorem mk_6_211 : Cond.lays "FlickedCratesModel" "FlickedCratesModel" "sleeves" "I" ∈ TBL := tb_mem (tb_6 (List.mem_of_getElem? (i := 211) rfl)) rfl
theorem mk_6_213 : Cond.lays "FlickedCratesModel" "FlickedCratesModel" "lookers" "I" ∈ TBL := tb_mem (tb_6 (List.mem_of_getElem? (i := 213) rfl)) rfl
theorem mk_6_215 : Cond.lays "FlickedCratesModel" "FlickedCratesModel" "stop" "I" ∈ TBL := tb_mem (tb_6 (List.mem_of_getElem? (i := 215) rfl)) rfl
theorem mk_6_217 : Cond.lays "FlickedCratesModel" "FlickedCratesModel" "newCrates" "I" ∈ TBL := tb_mem (tb_6 (List.mem_of_getElem? (i := 217) rfl)) rfl
theorem mk_6_219 : Cond.lays "FlickedCratesModel" "FlickedCratesModel" "newSleeves" "I" ∈ TBL := tb_mem (tb_6 (List.mem_of_getElem? (i := 219) rfl)) rfl
theorem mk_6_221 : Cond.lays "FlickedCratesModel" "FlickedCratesModel" "newLookers" "I" ∈ TBL := tb_mem (tb_6 (List.mem_of_getElem? (i := 221) rfl)) rfl
theorem mk_6_223 : Cond.lays "FlickedCratesModel" "FlickedCratesModel" "newStop" "I" ∈ TBL := tb_mem (tb_6 (List.mem_of_getElem? (i := 223) rfl)) rfl
theorem mk_6_225 : Cond.laysFinal "FlickedCratesModel" "FlickedCratesModel" "many" "[I" ∈ TBL := tb_mem (tb_6 (List.mem_of_getElem? (i := 225) rfl)) rfl
theorem mk_6_227 : Cond.laysFinal "FlickedCratesModel" "FlickedCratesModel" "row" "[I" ∈ TBL := tb_mem (tb_6 (List.mem_of_getElem? (i := 227) rfl)) rfl
theorem mk_6_229 : Cond.laysFinal "FlickedCratesModel" "FlickedCratesModel" "standing" "[I" ∈ TBL := tb_mem (tb_6 (List.mem_of_getElem? (i := 229) rfl)) rfl
theorem mk_6_231 : Cond.laysFinal "FlickedCratesModel" "FlickedCratesModel" "stands" "[I" ∈ TBL := tb_mem (tb_6 (List.mem_of_getElem? (i := 231) rfl)) rfl
theorem mk_6_233 : Cond.laysFinal "FlickedCratesModel" "FlickedCratesModel" "done" "[I" ∈ TBL := tb_mem (tb_6 (List.mem_of_getElem? (i := 233) rfl)) rfl
theorem mk_6_235 : Cond.laysFinal "FlickedCratesModel" "FlickedCratesModel" "money" "[I" ∈ TBL := tb_mem (tb_6 (List.mem_of_getElem? (i := 235) rfl)) rfl
theorem mk_6_237 : Cond.laysFinal "FlickedCratesModel" "FlickedCratesModel" "bought" "[I" ∈ TBL := tb_mem (tb_6 (List.mem_of_getElem? (i := 237) rfl)) rfl
theorem mk_6_239 : Cond.laysFinal "FlickedCratesModel" "FlickedCratesModel" "paid" "[I" ∈ TBL := tb_mem (tb_6 (List.mem_of_getElem? (i := 239) rfl)) rfl
theorem mk_7_1 : Cond.laysFinal "FlickedCratesModel" "FlickedCratesModel" "waited" "[I" ∈ TBL := tb_mem (tb_7 (List.mem_of_getElem? (i := 1) rfl)) rfl
theorem mk_7_3 : Cond.laysFinal "FlickedCratesModel" "FlickedCratesModel" "goneAt" "[I" ∈ TBL := tb_mem (tb_7 (List.mem_of_getElem? (i := 3) rfl)) rfl
theorem mk_7_5 : Cond.laysFinal "FlickedCratesModel" "FlickedCratesModel" "toLeft" "[I" ∈ TBL := tb_mem (tb_7 (List.mem_of_getElem? (i := 5) rfl)) rfl
theorem mk_7_7 : Cond.laysFinal "FlickedCratesModel" "FlickedCratesModel" "heldUp" "[I" ∈ TBL := tb_mem (tb_7 (List.mem_of_getElem? (i := 7) rfl)) rfl
theorem mk_7_9 : Cond.laysFinal "FlickedCratesModel" "FlickedCratesModel" "keptRow" "[I" ∈ TBL := tb_mem (tb_7 (List.mem_of_getElem? (i := 9) rfl)) rfl
theorem mk_7_11 : Cond.laysFinal "FlickedCratesModel" "FlickedCratesModel" "keptMany" "[I" ∈ TBL := tb_mem (tb_7 (List.mem_of_getElem? (i := 11) rfl)) rfl
theorem mk_7_13 : Cond.laysFinal "FlickedCratesModel" "FlickedCratesModel" "keptLies" "[I" ∈ TBL := tb_mem (tb_7 (List.mem_of_getElem? (i := 13) rfl)) rfl
theorem mk_7_15 : Cond.lays "FlickedCratesModel" "FlickedCratesModel" "seed" "I" ∈ TBL := tb_mem (tb_7 (List.mem_of_getElem? (i := 15) rfl)) rfl
theorem mk_7_17 : Cond.lays "FlickedCratesModel" "FlickedCratesModel" "soldNow" "I" ∈ TBL := tb_mem (tb_7 (List.mem_of_getElem? (i := 17) rfl)) rfl
theorem mk_7_19 : Cond.lays "FlickedCratesModel" "FlickedCratesModel" "heldNow" "I" ∈ TBL := tb_mem (tb_7 (List.mem_of_getElem? (i := 19) rfl)) rfl
theorem mk_7_21 : Cond.lays "FlickedCratesModel" "FlickedCratesModel" "blind" "Z" ∈ TBL := tb_mem (tb_7 (List.mem_of_getElem? (i := 21) rfl)) rfl
theorem mk_7_23 : Cond.laysFinal "FlickedCratesModel" "FlickedCratesModel" "part" "[J" ∈ TBL := tb_mem (tb_7 (List.mem_of_getElem? (i := 23) rfl)) rfl
theorem mk_7_25 : Cond.laysFinal "FlickedCratesModel" "FlickedCratesModel" "newPart" "[J" ∈ TBL := tb_mem (tb_7 (List.mem_of_getElem? (i := 25) rfl)) rfl
theorem mk_7_27 : Cond.lays "FlickedCratesModel" "FlickedCratesModel" "allParts" "J" ∈ TBL := tb_mem (tb_7 (List.mem_of_getElem? (i := 27) rfl)) rfl
theorem mk_7_29 : Cond.laysFinal "FlickedCratesModel" "FlickedCratesModel" "ordered" "[I" ∈ TBL := tb_mem (tb_7 (List.mem_of_getElem? (i := 29) rfl)) rfl
theorem mk_7_31 : Cond.lays "FlickedCratesModel" "FlickedCratesModel" "bestRound" "I" ∈ TBL := tb_mem (tb_7 (List.mem_of_getElem? (i := 31) rfl)) rfl
theorem mk_7_33 : Cond.lays "FlickedCratesModel" "FlickedCratesModel" "bestWaited" "I" ∈ TBL := tb_mem (tb_7 (List.mem_of_getElem? (i := 33) rfl)) rfl
theorem mk_7_35 : Cond.laysFinal "FlickedCratesModel" "FlickedCratesModel" "basket" "[J" ∈ TBL := tb_mem (tb_7 (List.mem_of_getElem? (i := 35) rfl)) rfl
theorem mk_7_37 : Cond.laysFinal "FlickedCratesModel" "FlickedCratesModel" "disc" "[I" ∈ TBL := tb_mem (tb_7 (List.mem_of_getElem? (i := 37) rfl)) rfl
theorem mk_7_39 : Cond.laysFinal "FlickedCratesModel" "FlickedCratesModel" "change" "[I" ∈ TBL := tb_mem (tb_7 (List.mem_of_getElem? (i := 39) rfl)) rfl
theorem mk_7_41 : Cond.lays "FlickedCratesModel" "FlickedCratesModel" "changeMany" "I" ∈ TBL := tb_mem (tb_7 (List.mem_of_getElem? (i := 41) rfl)) rfl
theorem mk_7_43 : Cond.laysFinal "FlickedCratesModel" "FlickedCratesModel" "hour" "[I" ∈ TBL := tb_mem (tb_7 (List.mem_of_getElem? (i := 43) rfl)) rfl
theorem mk_7_45 : Cond.laysFinal "FlickedCratesModel" "FlickedCratesModel" "image" "[I" ∈ TBL := tb_mem (tb_7 (List.mem_of_getElem? (i := 45) rfl)) rfl
theorem mk_7_47 : Cond.lays "FlickedCratesModel" "FlickedCratesModel" "images" "I" ∈ TBL := tb_mem (tb_7 (List.mem_of_getElem? (i := 47) rfl)) rfl
theorem mk_7_50 : Cond.methodLink RL 96 yX10_feed ∈ TBL := tb_mem (tb_7 (List.mem_of_getElem? (i := 50) rfl)) rfl
theorem mk_7_51 : Cond.instanceMethod yX10_feed ∈ TBL := tb_mem (tb_7 (List.mem_of_getElem? (i := 51) rfl)) rfl
theorem mk_7_52 : Cond.selects RX10 yX10_feed yX10_feed ∈ TBL := tb_mem (tb_7 (List.mem_of_getElem? (i := 52) rfl)) rfl
theorem mk_7_53 : Cond.code yX10_feed cX10_feed 8 (some .int) ∈ TBL := tb_mem (tb_7 (List.mem_of_getElem? (i := 53) rfl)) rfl
theorem mk_7_54 : Cond.methodLink RL 110 yX10_fault ∈ TBL := tb_mem (tb_7 (List.mem_of_getElem? (i := 54) rfl)) rfl
theorem mk_7_55 : Cond.instanceMethod yX10_fault ∈ TBL := tb_mem (tb_7 (List.mem_of_getElem? (i := 55) rfl)) rfl
theorem mk_7_56 : Cond.selects RX10 yX10_fault yX10_fault ∈ TBL := tb_mem (tb_7 (List.mem_of_getElem? (i := 56) rfl)) rfl
theorem mk_7_57 : Cond.code yX10_fault cX10_fault 1 (some .int) ∈ TBL := tb_mem (tb_7 (List.mem_of_getElem? (i := 57) rfl)) rfl
theorem mk_7_58 : Cond.methodLink RL 102 yX10_shop ∈ TBL := tb_mem (tb_7 (List.mem_of_getElem? (i := 58) rfl)) rfl
theorem mk_7_59 : Cond.instanceMethod yX10_shop ∈ TBL := tb_mem (tb_7 (List.mem_of_getElem? (i := 59) rfl)) rfl
theorem mk_7_60 : Cond.selects RX10 yX10_shop yX10_shop ∈ TBL := tb_mem (tb_7 (List.mem_of_getElem? (i := 60) rfl)) rfl
theorem mk_7_61 : Cond.code yX10_shop cX10_shop 6 (some .int) ∈ TBL := tb_mem (tb_7 (List.mem_of_getElem? (i := 61) rfl)) rfl
theorem mk_7_62 : Cond.methodLink RX10 241 yX10_may ∈ TBL := tb_mem (tb_7 (List.mem_of_getElem? (i := 62) rfl)) rfl
theorem mk_7_64 : Cond.instanceMethod yX10_may ∈ TBL := tb_mem (tb_7 (List.mem_of_getElem? (i := 64) rfl)) rfl
theorem mk_7_65 : Cond.code yX10_may cX10_may 4 (some .boolean) ∈ TBL := tb_mem (tb_7 (List.mem_of_getElem? (i := 65) rfl)) rfl
theorem mk_7_66 : Cond.methodLink RX10 245 yX10_begins ∈ TBL := tb_mem (tb_7 (List.mem_of_getElem? (i := 66) rfl)) rfl
theorem mk_7_68 : Cond.instanceMethod yX10_begins ∈ TBL := tb_mem (tb_7 (List.mem_of_getElem? (i := 68) rfl)) rfl
theorem mk_7_69 : Cond.code yX10_begins cX10_begins 2 none ∈ TBL := tb_mem (tb_7 (List.mem_of_getElem? (i := 69) rfl)) rfl
theorem mk_7_70 : Cond.methodLink RX10 176 yX10_fine ∈ TBL := tb_mem (tb_7 (List.mem_of_getElem? (i := 70) rfl)) rfl
theorem mk_7_72 : Cond.instanceMethod yX10_fine ∈ TBL := tb_mem (tb_7 (List.mem_of_getElem? (i := 72) rfl)) rfl
theorem mk_7_73 : Cond.code yX10_fine cX10_fine 1 (some .boolean) ∈ TBL := tb_mem (tb_7 (List.mem_of_getElem? (i := 73) rfl)) rfl
theorem mk_7_74 : Cond.methodLink RX10 249 yX10_isMore ∈ TBL := tb_mem (tb_7 (List.mem_of_getElem? (i := 74) rfl)) rfl
theorem mk_7_76 : Cond.instanceMethod yX10_isMore ∈ TBL := tb_mem (tb_7 (List.mem_of_getElem? (i := 76) rfl)) rfl
theorem mk_7_77 : Cond.code yX10_isMore cX10_isMore 1 (some .boolean) ∈ TBL := tb_mem (tb_7 (List.mem_of_getElem? (i := 77) rfl)) rfl
theorem mk_7_78 : Cond.methodLink RX10 159 yX10_here ∈ TBL := tb_mem (tb_7 (List.mem_of_getElem? (i := 78) rfl)) rfl
theorem mk_7_80 : Cond.instanceMethod yX10_here ∈ TBL := tb_mem (tb_7 (List.mem_of_getElem? (i := 80) rfl)) rfl
theorem mk_7_81 : Cond.code yX10_here cX10_here 1 (some .int) ∈ TBL := tb_mem (tb_7 (List.mem_of_getElem? (i := 81) rfl)) rfl
theorem mk_7_82 : Cond.methodLink RX10 252 yX10_word ∈ TBL := tb_mem (tb_7 (List.mem_of_getElem? (i := 82) rfl)) rfl
theorem mk_7_84 : Cond.instanceMethod yX10_word ∈ TBL := tb_mem (tb_7 (List.mem_of_getElem? (i := 84) rfl)) rfl
theorem mk_7_85 : Cond.code yX10_word cX10_word 4 (some .int) ∈ TBL := tb_mem (tb_7 (List.mem_of_getElem? (i := 85) rfl)) rfl
theorem mk_7_86 : Cond.methodLink RX10 163 yX10_isSmall ∈ TBL := tb_mem (tb_7 (List.mem_of_getElem? (i := 86) rfl)) rfl
theorem mk_7_87 : Cond.static yX10_isSmall ∈ TBL := tb_mem (tb_7 (List.mem_of_getElem? (i := 87) rfl)) rfl
theorem mk_7_88 : Cond.code yX10_isSmall cX10_isSmall 1 (some .boolean) ∈ TBL := tb_mem (tb_7 (List.mem_of_getElem? (i := 88) rfl)) rfl
theorem mk_7_90 : Cond.methodLink RX10 222 yX10_of ∈ TBL := tb_mem (tb_7 (List.mem_of_getElem? (i := 90) rfl)) rfl
theorem mk_7_91 : Cond.static yX10_of ∈ TBL := tb_mem (tb_7 (List.mem_of_getElem? (i := 91) rfl)) rfl
theorem mk_7_92 : Cond.code yX10_of cX10_of 3 (some .int) ∈ TBL := tb_mem (tb_7 (List.mem_of_getElem? (i := 92) rfl)) rfl
theorem mk_7_93 : Cond.methodLink RX10 167 yJ0_length_8abf5 ∈ TBL := tb_mem (tb_7 (List.mem_of_getElem? (i := 93) rfl)) rfl
theorem mk_7_94 : Cond.methodLink RX10 172 yJ0_charAt_5068e ∈ TBL := tb_mem (tb_7 (List.mem_of_getElem? (i := 94) rfl)) rfl
theorem mk_7_95 : Cond.methodLink RX10 257 yX10_isOther ∈ TBL := tb_mem (tb_7 (List.mem_of_getElem? (i := 95) rfl)) rfl
theorem mk_7_96 : Cond.static yX10_isOther ∈ TBL := tb_mem (tb_7 (List.mem_of_getElem? (i := 96) rfl)) rfl
theorem mk_7_97 : Cond.code yX10_isOther cX10_isOther 1 (some .boolean) ∈ TBL := tb_mem (tb_7 (List.mem_of_getElem? (i := 97) rfl)) rfl
theorem mk_7_106 : Cond.methodLink RX10 183 yX10_wrong ∈ TBL := tb_mem (tb_7 (List.mem_of_getElem? (i := 106) rfl)) rfl
theorem mk_7_108 : Cond.instanceMethod yX10_wrong ∈ TBL := tb_mem (tb_7 (List.mem_of_getElem? (i := 108) rfl)) rfl
theorem mk_7_109 : Cond.code yX10_wrong cX10_wrong 3 none ∈ TBL := tb_mem (tb_7 (List.mem_of_getElem? (i := 109) rfl)) rfl
theorem mk_7_110 : Cond.methodLink RX10 260 yX10_pass ∈ TBL := tb_mem (tb_7 (List.mem_of_getElem? (i := 110) rfl)) rfl
theorem mk_7_112 : Cond.instanceMethod yX10_pass ∈ TBL := tb_mem (tb_7 (List.mem_of_getElem? (i := 112) rfl)) rfl
theorem mk_7_113 : Cond.code yX10_pass cX10_pass 1 none ∈ TBL := tb_mem (tb_7 (List.mem_of_getElem? (i := 113) rfl)) rfl
theorem mk_7_114 : Cond.methodLink RX10 226 yX10_readNumber ∈ TBL := tb_mem (tb_7 (List.mem_of_getElem? (i := 114) rfl)) rfl
theorem mk_7_116 : Cond.instanceMethod yX10_readNumber ∈ TBL := tb_mem (tb_7 (List.mem_of_getElem? (i := 116) rfl)) rfl
theorem mk_7_117 : Cond.code yX10_readNumber cX10_readNumber 6 (some .int) ∈ TBL := tb_mem (tb_7 (List.mem_of_getElem? (i := 117) rfl)) rfl
theorem mk_7_118 : Cond.methodLink RX10 180 yX10_isDigit ∈ TBL := tb_mem (tb_7 (List.mem_of_getElem? (i := 118) rfl)) rfl
theorem mk_7_119 : Cond.static yX10_isDigit ∈ TBL := tb_mem (tb_7 (List.mem_of_getElem? (i := 119) rfl)) rfl
theorem mk_7_120 : Cond.code yX10_isDigit cX10_isDigit 1 (some .boolean) ∈ TBL := tb_mem (tb_7 (List.mem_of_getElem? (i := 120) rfl)) rfl
theorem mk_7_121 : Cond.methodLink RX10 263 yX10_readOther ∈ TBL := tb_mem (tb_7 (List.mem_of_getElem? (i := 121) rfl)) rfl
theorem mk_7_123 : Cond.instanceMethod yX10_readOther ∈ TBL := tb_mem (tb_7 (List.mem_of_getElem? (i := 123) rfl)) rfl
theorem mk_7_124 : Cond.code yX10_readOther cX10_readOther 6 none ∈ TBL := tb_mem (tb_7 (List.mem_of_getElem? (i := 124) rfl)) rfl
theorem mk_7_125 : Cond.methodLink RX10 217 yX10_ownOf ∈ TBL := tb_mem (tb_7 (List.mem_of_getElem? (i := 125) rfl)) rfl
theorem mk_7_127 : Cond.instanceMethod yX10_ownOf ∈ TBL := tb_mem (tb_7 (List.mem_of_getElem? (i := 127) rfl)) rfl
theorem mk_7_128 : Cond.code yX10_ownOf cX10_ownOf 6 (some .int) ∈ TBL := tb_mem (tb_7 (List.mem_of_getElem? (i := 128) rfl)) rfl
theorem mk_7_129 : Cond.methodLink RX10 266 yX10_sign ∈ TBL := tb_mem (tb_7 (List.mem_of_getElem? (i := 129) rfl)) rfl
theorem mk_7_131 : Cond.instanceMethod yX10_sign ∈ TBL := tb_mem (tb_7 (List.mem_of_getElem? (i := 131) rfl)) rfl
theorem mk_7_132 : Cond.code yX10_sign cX10_sign 2 none ∈ TBL := tb_mem (tb_7 (List.mem_of_getElem? (i := 132) rfl)) rfl
theorem mk_7_133 : Cond.methodLink RX10 269 yX10_result ∈ TBL := tb_mem (tb_7 (List.mem_of_getElem? (i := 133) rfl)) rfl
theorem mk_7_135 : Cond.instanceMethod yX10_result ∈ TBL := tb_mem (tb_7 (List.mem_of_getElem? (i := 135) rfl)) rfl
theorem mk_7_136 : Cond.code yX10_result cX10_result 2 (some .int) ∈ TBL := tb_mem (tb_7 (List.mem_of_getElem? (i := 136) rfl)) rfl
theorem mk_7_137 : Cond.methodLink RL 113 yX10_told ∈ TBL := tb_mem (tb_7 (List.mem_of_getElem? (i := 137) rfl)) rfl
theorem mk_7_138 : Cond.instanceMethod yX10_told ∈ TBL := tb_mem (tb_7 (List.mem_of_getElem? (i := 138) rfl)) rfl
theorem mk_7_139 : Cond.selects RX10 yX10_told yX10_told ∈ TBL := tb_mem (tb_7 (List.mem_of_getElem? (i := 139) rfl)) rfl
theorem mk_7_140 : Cond.code yX10_told cX10_told 2 (some .int) ∈ TBL := tb_mem (tb_7 (List.mem_of_getElem? (i := 140) rfl)) rfl
theorem mk_7_141 : Cond.methodLink RX10 273 yX10_within ∈ TBL := tb_mem (tb_7 (List.mem_of_getElem? (i := 141) rfl)) rfl
theorem mk_7_142 : Cond.static yX10_within ∈ TBL := tb_mem (tb_7 (List.mem_of_getElem? (i := 142) rfl)) rfl
theorem mk_7_143 : Cond.code yX10_within cX10_within 3 (some .boolean) ∈ TBL := tb_mem (tb_7 (List.mem_of_getElem? (i := 143) rfl)) rfl
theorem mk_7_144 : Cond.methodLink RL 117 yX10_crate ∈ TBL := tb_mem (tb_7 (List.mem_of_getElem? (i := 144) rfl)) rfl
theorem mk_7_145 : Cond.instanceMethod yX10_crate ∈ TBL := tb_mem (tb_7 (List.mem_of_getElem? (i := 145) rfl)) rfl
theorem mk_7_146 : Cond.selects RX10 yX10_crate yX10_crate ∈ TBL := tb_mem (tb_7 (List.mem_of_getElem? (i := 146) rfl)) rfl
theorem mk_7_147 : Cond.code yX10_crate cX10_crate 3 (some .int) ∈ TBL := tb_mem (tb_7 (List.mem_of_getElem? (i := 147) rfl)) rfl
theorem mk_7_148 : Cond.methodLink RX10 277 yX10_isCrate ∈ TBL := tb_mem (tb_7 (List.mem_of_getElem? (i := 148) rfl)) rfl
theorem mk_7_150 : Cond.instanceMethod yX10_isCrate ∈ TBL := tb_mem (tb_7 (List.mem_of_getElem? (i := 150) rfl)) rfl
theorem mk_7_151 : Cond.code yX10_isCrate cX10_isCrate 3 (some .boolean) ∈ TBL := tb_mem (tb_7 (List.mem_of_getElem? (i := 151) rfl)) rfl
theorem mk_7_152 : Cond.methodLink RL 120 yX10_row ∈ TBL := tb_mem (tb_7 (List.mem_of_getElem? (i := 152) rfl)) rfl
theorem mk_7_153 : Cond.instanceMethod yX10_row ∈ TBL := tb_mem (tb_7 (List.mem_of_getElem? (i := 153) rfl)) rfl
theorem mk_7_154 : Cond.selects RX10 yX10_row yX10_row ∈ TBL := tb_mem (tb_7 (List.mem_of_getElem? (i := 154) rfl)) rfl
theorem mk_7_155 : Cond.code yX10_row cX10_row 3 (some .int) ∈ TBL := tb_mem (tb_7 (List.mem_of_getElem? (i := 155) rfl)) rfl
theorem mk_7_156 : Cond.methodLink RL 123 yX10_sleeve ∈ TBL := tb_mem (tb_7 (List.mem_of_getElem? (i := 156) rfl)) rfl
theorem mk_7_157 : Cond.instanceMethod yX10_sleeve ∈ TBL := tb_mem (tb_7 (List.mem_of_getElem? (i := 157) rfl)) rfl
theorem mk_7_158 : Cond.selects RX10 yX10_sleeve yX10_sleeve ∈ TBL := tb_mem (tb_7 (List.mem_of_getElem? (i := 158) rfl)) rfl
theorem mk_7_159 : Cond.code yX10_sleeve cX10_sleeve 3 (some .int) ∈ TBL := tb_mem (tb_7 (List.mem_of_getElem? (i := 159) rfl)) rfl
theorem mk_7_160 : Cond.methodLink RX10 287 yX10_isSleeve ∈ TBL := tb_mem (tb_7 (List.mem_of_getElem? (i := 160) rfl)) rfl
theorem mk_7_162 : Cond.instanceMethod yX10_isSleeve ∈ TBL := tb_mem (tb_7 (List.mem_of_getElem? (i := 162) rfl)) rfl
theorem mk_7_163 : Cond.code yX10_isSleeve cX10_isSleeve 3 (some .boolean) ∈ TBL := tb_mem (tb_7 (List.mem_of_getElem? (i := 163) rfl)) rfl
theorem mk_7_164 : Cond.methodLink RX10 284 yX10_own ∈ TBL := tb_mem (tb_7 (List.mem_of_getElem? (i := 164) rfl)) rfl
theorem mk_7_166 : Cond.instanceMethod yX10_own ∈ TBL := tb_mem (tb_7 (List.mem_of_getElem? (i := 166) rfl)) rfl
theorem mk_7_167 : Cond.code yX10_own cX10_own 2 (some .int) ∈ TBL := tb_mem (tb_7 (List.mem_of_getElem? (i := 167) rfl)) rfl
theorem mk_7_168 : Cond.methodLink RX10 290 yX10_kindOf ∈ TBL := tb_mem (tb_7 (List.mem_of_getElem? (i := 168) rfl)) rfl
theorem mk_7_170 : Cond.instanceMethod yX10_kindOf ∈ TBL := tb_mem (tb_7 (List.mem_of_getElem? (i := 170) rfl)) rfl
theorem mk_7_171 : Cond.code yX10_kindOf cX10_kindOf 3 (some .int) ∈ TBL := tb_mem (tb_7 (List.mem_of_getElem? (i := 171) rfl)) rfl
theorem mk_7_172 : Cond.methodLink RX10 281 yX10_away ∈ TBL := tb_mem (tb_7 (List.mem_of_getElem? (i := 172) rfl)) rfl
theorem mk_7_174 : Cond.instanceMethod yX10_away ∈ TBL := tb_mem (tb_7 (List.mem_of_getElem? (i := 174) rfl)) rfl
theorem mk_7_175 : Cond.code yX10_away cX10_away 2 (some .int) ∈ TBL := tb_mem (tb_7 (List.mem_of_getElem? (i := 175) rfl)) rfl
theorem mk_7_176 : Cond.methodLink RL 126 yX10_looker ∈ TBL := tb_mem (tb_7 (List.mem_of_getElem? (i := 176) rfl)) rfl
theorem mk_7_177 : Cond.instanceMethod yX10_looker ∈ TBL := tb_mem (tb_7 (List.mem_of_getElem? (i := 177) rfl)) rfl
theorem mk_7_178 : Cond.selects RX10 yX10_looker yX10_looker ∈ TBL := tb_mem (tb_7 (List.mem_of_getElem? (i := 178) rfl)) rfl
theorem mk_7_179 : Cond.code yX10_looker cX10_looker 3 (some .int) ∈ TBL := tb_mem (tb_7 (List.mem_of_getElem? (i := 179) rfl)) rfl
theorem mk_7_180 : Cond.methodLink RX10 293 yX10_isLooker ∈ TBL := tb_mem (tb_7 (List.mem_of_getElem? (i := 180) rfl)) rfl
theorem mk_7_182 : Cond.instanceMethod yX10_isLooker ∈ TBL := tb_mem (tb_7 (List.mem_of_getElem? (i := 182) rfl)) rfl
theorem mk_7_183 : Cond.code yX10_isLooker cX10_isLooker 3 (some .boolean) ∈ TBL := tb_mem (tb_7 (List.mem_of_getElem? (i := 183) rfl)) rfl
theorem mk_7_184 : Cond.methodLink RL 129 yX10_missed ∈ TBL := tb_mem (tb_7 (List.mem_of_getElem? (i := 184) rfl)) rfl
theorem mk_7_185 : Cond.instanceMethod yX10_missed ∈ TBL := tb_mem (tb_7 (List.mem_of_getElem? (i := 185) rfl)) rfl
theorem mk_7_186 : Cond.selects RX10 yX10_missed yX10_missed ∈ TBL := tb_mem (tb_7 (List.mem_of_getElem? (i := 186) rfl)) rfl
theorem mk_7_187 : Cond.code yX10_missed cX10_missed 2 (some .int) ∈ TBL := tb_mem (tb_7 (List.mem_of_getElem? (i := 187) rfl)) rfl
theorem mk_7_188 : Cond.methodLink RL 132 yX10_lay ∈ TBL := tb_mem (tb_7 (List.mem_of_getElem? (i := 188) rfl)) rfl
theorem mk_7_189 : Cond.instanceMethod yX10_lay ∈ TBL := tb_mem (tb_7 (List.mem_of_getElem? (i := 189) rfl)) rfl
theorem mk_7_190 : Cond.selects RX10 yX10_lay yX10_lay ∈ TBL := tb_mem (tb_7 (List.mem_of_getElem? (i := 190) rfl)) rfl
theorem mk_7_191 : Cond.code yX10_lay cX10_lay 4 (some .int) ∈ TBL := tb_mem (tb_7 (List.mem_of_getElem? (i := 191) rfl)) rfl
theorem mk_7_192 : Cond.methodLink RX10 296 yX10_goesOut ∈ TBL := tb_mem (tb_7 (List.mem_of_getElem? (i := 192) rfl)) rfl
theorem mk_7_194 : Cond.instanceMethod yX10_goesOut ∈ TBL := tb_mem (tb_7 (List.mem_of_getElem? (i := 194) rfl)) rfl
theorem mk_7_195 : Cond.code yX10_goesOut cX10_goesOut 5 none ∈ TBL := tb_mem (tb_7 (List.mem_of_getElem? (i := 195) rfl)) rfl
theorem mk_7_196 : Cond.methodLink RL 135 yX10_change ∈ TBL := tb_mem (tb_7 (List.mem_of_getElem? (i := 196) rfl)) rfl
theorem mk_7_197 : Cond.instanceMethod yX10_change ∈ TBL := tb_mem (tb_7 (List.mem_of_getElem? (i := 197) rfl)) rfl
theorem mk_7_198 : Cond.selects RX10 yX10_change yX10_change ∈ TBL := tb_mem (tb_7 (List.mem_of_getElem? (i := 198) rfl)) rfl
theorem mk_7_199 : Cond.code yX10_change cX10_change 3 (some .int) ∈ TBL := tb_mem (tb_7 (List.mem_of_getElem? (i := 199) rfl)) rfl
theorem mk_7_200 : Cond.methodLink RX10 299 yX10_swaps ∈ TBL := tb_mem (tb_7 (List.mem_of_getElem? (i := 200) rfl)) rfl
theorem mk_7_202 : Cond.instanceMethod yX10_swaps ∈ TBL := tb_mem (tb_7 (List.mem_of_getElem? (i := 202) rfl)) rfl
theorem mk_7_203 : Cond.code yX10_swaps cX10_swaps 4 none ∈ TBL := tb_mem (tb_7 (List.mem_of_getElem? (i := 203) rfl)) rfl
theorem mk_7_204 : Cond.methodLink RL 138 yX10_wander ∈ TBL := tb_mem (tb_7 (List.mem_of_getElem? (i := 204) rfl)) rfl
theorem mk_7_205 : Cond.instanceMethod yX10_wander ∈ TBL := tb_mem (tb_7 (List.mem_of_getElem? (i := 205) rfl)) rfl
theorem mk_7_206 : Cond.selects RX10 yX10_wander yX10_wander ∈ TBL := tb_mem (tb_7 (List.mem_of_getElem? (i := 206) rfl)) rfl
theorem mk_7_207 : Cond.code yX10_wander cX10_wander 5 (some .int) ∈ TBL := tb_mem (tb_7 (List.mem_of_getElem? (i := 207) rfl)) rfl
theorem mk_7_208 : Cond.methodLink RX10 302 yX10_standsAt ∈ TBL := tb_mem (tb_7 (List.mem_of_getElem? (i := 208) rfl)) rfl
theorem mk_7_210 : Cond.instanceMethod yX10_standsAt ∈ TBL := tb_mem (tb_7 (List.mem_of_getElem? (i := 210) rfl)) rfl
theorem mk_7_211 : Cond.code yX10_standsAt cX10_standsAt 3 (some .int) ∈ TBL := tb_mem (tb_7 (List.mem_of_getElem? (i := 211) rfl)) rfl
theorem mk_7_212 : Cond.methodLink RL 142 yX10_day ∈ TBL := tb_mem (tb_7 (List.mem_of_getElem? (i := 212) rfl)) rfl
theorem mk_7_213 : Cond.instanceMethod yX10_day ∈ TBL := tb_mem (tb_7 (List.mem_of_getElem? (i := 213) rfl)) rfl
theorem mk_7_214 : Cond.selects RX10 yX10_day yX10_day ∈ TBL := tb_mem (tb_7 (List.mem_of_getElem? (i := 214) rfl)) rfl
theorem mk_7_215 : Cond.code yX10_day cX10_day 2 (some .int) ∈ TBL := tb_mem (tb_7 (List.mem_of_getElem? (i := 215) rfl)) rfl
theorem mk_7_216 : Cond.methodLink RX10 341 yX10_asTold ∈ TBL := tb_mem (tb_7 (List.mem_of_getElem? (i := 216) rfl)) rfl
theorem mk_7_218 : Cond.instanceMethod yX10_asTold ∈ TBL := tb_mem (tb_7 (List.mem_of_getElem? (i := 218) rfl)) rfl
theorem mk_7_219 : Cond.code yX10_asTold cX10_asTold 2 none ∈ TBL := tb_mem (tb_7 (List.mem_of_getElem? (i := 219) rfl)) rfl
theorem mk_7_220 : Cond.methodLink RX10 344 yX10_goes ∈ TBL := tb_mem (tb_7 (List.mem_of_getElem? (i := 220) rfl)) rfl
theorem mk_7_222 : Cond.instanceMethod yX10_goes ∈ TBL := tb_mem (tb_7 (List.mem_of_getElem? (i := 222) rfl)) rfl
theorem mk_7_223 : Cond.code yX10_goes cX10_goes 4 none ∈ TBL := tb_mem (tb_7 (List.mem_of_getElem? (i := 223) rfl)) rfl
theorem mk_7_224 : Cond.methodLink RX10 338 yX10_acts ∈ TBL := tb_mem (tb_7 (List.mem_of_getElem? (i := 224) rfl)) rfl
theorem mk_7_226 : Cond.instanceMethod yX10_acts ∈ TBL := tb_mem (tb_7 (List.mem_of_getElem? (i := 226) rfl)) rfl
theorem mk_7_227 : Cond.code yX10_acts cX10_acts 6 none ∈ TBL := tb_mem (tb_7 (List.mem_of_getElem? (i := 227) rfl)) rfl
theorem mk_7_228 : Cond.methodLink RX10 328 yX10_whoAt ∈ TBL := tb_mem (tb_7 (List.mem_of_getElem? (i := 228) rfl)) rfl
theorem mk_7_230 : Cond.instanceMethod yX10_whoAt ∈ TBL := tb_mem (tb_7 (List.mem_of_getElem? (i := 230) rfl)) rfl
theorem mk_7_231 : Cond.code yX10_whoAt cX10_whoAt 3 (some .int) ∈ TBL := tb_mem (tb_7 (List.mem_of_getElem? (i := 231) rfl)) rfl
theorem mk_7_232 : Cond.methodLink RX10 331 yX10_comes ∈ TBL := tb_mem (tb_7 (List.mem_of_getElem? (i := 232) rfl)) rfl
theorem mk_7_234 : Cond.instanceMethod yX10_comes ∈ TBL := tb_mem (tb_7 (List.mem_of_getElem? (i := 234) rfl)) rfl
theorem mk_7_235 : Cond.code yX10_comes cX10_comes 11 none ∈ TBL := tb_mem (tb_7 (List.mem_of_getElem? (i := 235) rfl)) rfl
theorem mk_7_236 : Cond.methodLink RX10 312 yX10_draw ∈ TBL := tb_mem (tb_7 (List.mem_of_getElem? (i := 236) rfl)) rfl
theorem mk_7_238 : Cond.instanceMethod yX10_draw ∈ TBL := tb_mem (tb_7 (List.mem_of_getElem? (i := 238) rfl)) rfl
theorem mk_7_239 : Cond.code yX10_draw cX10_draw 2 (some .int) ∈ TBL := tb_mem (tb_7 (List.mem_of_getElem? (i := 239) rfl)) rfl
theorem mk_8_0 : Cond.constant RX10 308 (1103515245) ∈ TBL := tb_mem (tb_8 (List.mem_of_getElem? (i := 0) rfl)) rfl
theorem mk_8_1 : Cond.methodLink RX10 322 yX10_putFrom ∈ TBL := tb_mem (tb_8 (List.mem_of_getElem? (i := 1) rfl)) rfl
theorem mk_8_3 : Cond.instanceMethod yX10_putFrom ∈ TBL := tb_mem (tb_8 (List.mem_of_getElem? (i := 3) rfl)) rfl
theorem mk_8_4 : Cond.code yX10_putFrom cX10_putFrom 5 (some .int) ∈ TBL := tb_mem (tb_8 (List.mem_of_getElem? (i := 4) rfl)) rfl
theorem mk_8_5 : Cond.methodLink RX10 309 yX10_weights ∈ TBL := tb_mem (tb_8 (List.mem_of_getElem? (i := 5) rfl)) rfl
theorem mk_8_7 : Cond.instanceMethod yX10_weights ∈ TBL := tb_mem (tb_8 (List.mem_of_getElem? (i := 7) rfl)) rfl
theorem mk_8_8 : Cond.code yX10_weights cX10_weights 1 (some .int) ∈ TBL := tb_mem (tb_8 (List.mem_of_getElem? (i := 8) rfl)) rfl
theorem mk_8_9 : Cond.methodLink RX10 335 yX10_nextOf ∈ TBL := tb_mem (tb_8 (List.mem_of_getElem? (i := 9) rfl)) rfl
theorem mk_8_11 : Cond.instanceMethod yX10_nextOf ∈ TBL := tb_mem (tb_8 (List.mem_of_getElem? (i := 11) rfl)) rfl
theorem mk_8_12 : Cond.code yX10_nextOf cX10_nextOf 3 (some .int) ∈ TBL := tb_mem (tb_8 (List.mem_of_getElem? (i := 12) rfl)) rfl
theorem mk_8_13 : Cond.methodLink RL 145 yX10_would ∈ TBL := tb_mem (tb_8 (List.mem_of_getElem? (i := 13) rfl)) rfl
theorem mk_8_14 : Cond.instanceMethod yX10_would ∈ TBL := tb_mem (tb_8 (List.mem_of_getElem? (i := 14) rfl)) rfl
theorem mk_8_15 : Cond.selects RX10 yX10_would yX10_would ∈ TBL := tb_mem (tb_8 (List.mem_of_getElem? (i := 15) rfl)) rfl
theorem mk_8_16 : Cond.code yX10_would cX10_would 4 (some .int) ∈ TBL := tb_mem (tb_8 (List.mem_of_getElem? (i := 16) rfl)) rfl
theorem mk_8_17 : Cond.methodLink RX10 347 yX10_keeps ∈ TBL := tb_mem (tb_8 (List.mem_of_getElem? (i := 17) rfl)) rfl
theorem mk_8_19 : Cond.instanceMethod yX10_keeps ∈ TBL := tb_mem (tb_8 (List.mem_of_getElem? (i := 19) rfl)) rfl
theorem mk_8_20 : Cond.code yX10_keeps cX10_keeps 2 none ∈ TBL := tb_mem (tb_8 (List.mem_of_getElem? (i := 20) rfl)) rfl
theorem mk_8_21 : Cond.methodLink RX10 350 yX10_offAll ∈ TBL := tb_mem (tb_8 (List.mem_of_getElem? (i := 21) rfl)) rfl
theorem mk_8_23 : Cond.instanceMethod yX10_offAll ∈ TBL := tb_mem (tb_8 (List.mem_of_getElem? (i := 23) rfl)) rfl
theorem mk_8_24 : Cond.code yX10_offAll cX10_offAll 3 (some .int) ∈ TBL := tb_mem (tb_8 (List.mem_of_getElem? (i := 24) rfl)) rfl
theorem mk_8_25 : Cond.methodLink RX10 353 yX10_back ∈ TBL := tb_mem (tb_8 (List.mem_of_getElem? (i := 25) rfl)) rfl
theorem mk_8_27 : Cond.instanceMethod yX10_back ∈ TBL := tb_mem (tb_8 (List.mem_of_getElem? (i := 27) rfl)) rfl
theorem mk_8_28 : Cond.code yX10_back cX10_back 2 none ∈ TBL := tb_mem (tb_8 (List.mem_of_getElem? (i := 28) rfl)) rfl
theorem mk_8_29 : Cond.methodLink RX10 355 yX10_total ∈ TBL := tb_mem (tb_8 (List.mem_of_getElem? (i := 29) rfl)) rfl
theorem mk_8_31 : Cond.instanceMethod yX10_total ∈ TBL := tb_mem (tb_8 (List.mem_of_getElem? (i := 31) rfl)) rfl
theorem mk_8_32 : Cond.code yX10_total cX10_total 4 (some .int) ∈ TBL := tb_mem (tb_8 (List.mem_of_getElem? (i := 32) rfl)) rfl
theorem mk_8_33 : Cond.methodLink RX10 359 yX10_lastGone ∈ TBL := tb_mem (tb_8 (List.mem_of_getElem? (i := 33) rfl)) rfl
theorem mk_8_35 : Cond.instanceMethod yX10_lastGone ∈ TBL := tb_mem (tb_8 (List.mem_of_getElem? (i := 35) rfl)) rfl
theorem mk_8_36 : Cond.code yX10_lastGone cX10_lastGone 3 (some .int) ∈ TBL := tb_mem (tb_8 (List.mem_of_getElem? (i := 36) rfl)) rfl
theorem mk_8_37 : Cond.methodLink RL 149 yX10_buys ∈ TBL := tb_mem (tb_8 (List.mem_of_getElem? (i := 37) rfl)) rfl
theorem mk_8_38 : Cond.instanceMethod yX10_buys ∈ TBL := tb_mem (tb_8 (List.mem_of_getElem? (i := 38) rfl)) rfl
theorem mk_8_39 : Cond.selects RX10 yX10_buys yX10_buys ∈ TBL := tb_mem (tb_8 (List.mem_of_getElem? (i := 39) rfl)) rfl
theorem mk_8_40 : Cond.code yX10_buys cX10_buys 4 (some .int) ∈ TBL := tb_mem (tb_8 (List.mem_of_getElem? (i := 40) rfl)) rfl
theorem mk_8_41 : Cond.methodLink RL 152 yX10_then ∈ TBL := tb_mem (tb_8 (List.mem_of_getElem? (i := 41) rfl)) rfl
theorem mk_8_42 : Cond.instanceMethod yX10_then ∈ TBL := tb_mem (tb_8 (List.mem_of_getElem? (i := 42) rfl)) rfl
theorem mk_8_43 : Cond.selects RX10 yX10_then yX10_then ∈ TBL := tb_mem (tb_8 (List.mem_of_getElem? (i := 43) rfl)) rfl
theorem mk_8_44 : Cond.code yX10_then cX10_then 4 (some .int) ∈ TBL := tb_mem (tb_8 (List.mem_of_getElem? (i := 44) rfl)) rfl
theorem mk_8_45 : Cond.methodLink RL 156 yX10_odds ∈ TBL := tb_mem (tb_8 (List.mem_of_getElem? (i := 45) rfl)) rfl
theorem mk_8_46 : Cond.instanceMethod yX10_odds ∈ TBL := tb_mem (tb_8 (List.mem_of_getElem? (i := 46) rfl)) rfl
theorem mk_8_47 : Cond.selects RX10 yX10_odds yX10_odds ∈ TBL := tb_mem (tb_8 (List.mem_of_getElem? (i := 47) rfl)) rfl
theorem mk_8_48 : Cond.code yX10_odds cX10_odds 5 (some .long) ∈ TBL := tb_mem (tb_8 (List.mem_of_getElem? (i := 48) rfl)) rfl
theorem mk_8_49 : Cond.methodLink RX10 372 yX10_findOdds ∈ TBL := tb_mem (tb_8 (List.mem_of_getElem? (i := 49) rfl)) rfl
theorem mk_8_51 : Cond.instanceMethod yX10_findOdds ∈ TBL := tb_mem (tb_8 (List.mem_of_getElem? (i := 51) rfl)) rfl
theorem mk_8_52 : Cond.code yX10_findOdds cX10_findOdds 8 none ∈ TBL := tb_mem (tb_8 (List.mem_of_getElem? (i := 52) rfl)) rfl
theorem mk_8_53 : Cond.constantLong RX10 366 (2) ∈ TBL := tb_mem (tb_8 (List.mem_of_getElem? (i := 53) rfl)) rfl
theorem mk_8_54 : Cond.methodLink RX10 375 yX10_fraction ∈ TBL := tb_mem (tb_8 (List.mem_of_getElem? (i := 54) rfl)) rfl
theorem mk_8_55 : Cond.static yX10_fraction ∈ TBL := tb_mem (tb_8 (List.mem_of_getElem? (i := 55) rfl)) rfl
theorem mk_8_56 : Cond.code yX10_fraction cX10_fraction 7 (some .long) ∈ TBL := tb_mem (tb_8 (List.mem_of_getElem? (i := 56) rfl)) rfl
theorem mk_8_57 : Cond.methodLink RX10 368 yX10_divisor ∈ TBL := tb_mem (tb_8 (List.mem_of_getElem? (i := 57) rfl)) rfl
theorem mk_8_58 : Cond.static yX10_divisor ∈ TBL := tb_mem (tb_8 (List.mem_of_getElem? (i := 58) rfl)) rfl
theorem mk_8_59 : Cond.code yX10_divisor cX10_divisor 10 (some .long) ∈ TBL := tb_mem (tb_8 (List.mem_of_getElem? (i := 59) rfl)) rfl
theorem mk_8_60 : Cond.methodLink RL 159 yX10_hidden ∈ TBL := tb_mem (tb_8 (List.mem_of_getElem? (i := 60) rfl)) rfl
theorem mk_8_61 : Cond.instanceMethod yX10_hidden ∈ TBL := tb_mem (tb_8 (List.mem_of_getElem? (i := 61) rfl)) rfl
theorem mk_8_62 : Cond.selects RX10 yX10_hidden yX10_hidden ∈ TBL := tb_mem (tb_8 (List.mem_of_getElem? (i := 62) rfl)) rfl
theorem mk_8_63 : Cond.code yX10_hidden cX10_hidden 6 (some .int) ∈ TBL := tb_mem (tb_8 (List.mem_of_getElem? (i := 63) rfl)) rfl
theorem mk_8_64 : Cond.methodLink RX10 379 yX10_stepped ∈ TBL := tb_mem (tb_8 (List.mem_of_getElem? (i := 64) rfl)) rfl
theorem mk_8_66 : Cond.instanceMethod yX10_stepped ∈ TBL := tb_mem (tb_8 (List.mem_of_getElem? (i := 66) rfl)) rfl
theorem mk_8_67 : Cond.code yX10_stepped cX10_stepped 5 (some .int) ∈ TBL := tb_mem (tb_8 (List.mem_of_getElem? (i := 67) rfl)) rfl
theorem mk_8_68 : Cond.methodLink RL 162 yX10_order ∈ TBL := tb_mem (tb_8 (List.mem_of_getElem? (i := 68) rfl)) rfl
theorem mk_8_69 : Cond.instanceMethod yX10_order ∈ TBL := tb_mem (tb_8 (List.mem_of_getElem? (i := 69) rfl)) rfl
theorem mk_8_70 : Cond.selects RX10 yX10_order yX10_order ∈ TBL := tb_mem (tb_8 (List.mem_of_getElem? (i := 70) rfl)) rfl
theorem mk_8_71 : Cond.code yX10_order cX10_order 5 (some .int) ∈ TBL := tb_mem (tb_8 (List.mem_of_getElem? (i := 71) rfl)) rfl
theorem mk_8_72 : Cond.methodLink RX10 385 yX10_findOrder ∈ TBL := tb_mem (tb_8 (List.mem_of_getElem? (i := 72) rfl)) rfl
theorem mk_8_74 : Cond.instanceMethod yX10_findOrder ∈ TBL := tb_mem (tb_8 (List.mem_of_getElem? (i := 74) rfl)) rfl
theorem mk_8_75 : Cond.code yX10_findOrder cX10_findOrder 6 none ∈ TBL := tb_mem (tb_8 (List.mem_of_getElem? (i := 75) rfl)) rfl
theorem mk_8_76 : Cond.methodLink RX10 382 yX10_seconds ∈ TBL := tb_mem (tb_8 (List.mem_of_getElem? (i := 76) rfl)) rfl
theorem mk_8_78 : Cond.instanceMethod yX10_seconds ∈ TBL := tb_mem (tb_8 (List.mem_of_getElem? (i := 78) rfl)) rfl
theorem mk_8_79 : Cond.code yX10_seconds cX10_seconds 3 (some .int) ∈ TBL := tb_mem (tb_8 (List.mem_of_getElem? (i := 79) rfl)) rfl
theorem mk_8_80 : Cond.methodLink RL 165 yX10_mean ∈ TBL := tb_mem (tb_8 (List.mem_of_getElem? (i := 80) rfl)) rfl
theorem mk_8_81 : Cond.instanceMethod yX10_mean ∈ TBL := tb_mem (tb_8 (List.mem_of_getElem? (i := 81) rfl)) rfl
theorem mk_8_82 : Cond.selects RX10 yX10_mean yX10_mean ∈ TBL := tb_mem (tb_8 (List.mem_of_getElem? (i := 82) rfl)) rfl
theorem mk_8_83 : Cond.code yX10_mean cX10_mean 9 (some .long) ∈ TBL := tb_mem (tb_8 (List.mem_of_getElem? (i := 83) rfl)) rfl
theorem mk_8_84 : Cond.methodLink RL 169 yX10_pace ∈ TBL := tb_mem (tb_8 (List.mem_of_getElem? (i := 84) rfl)) rfl
theorem mk_8_85 : Cond.instanceMethod yX10_pace ∈ TBL := tb_mem (tb_8 (List.mem_of_getElem? (i := 85) rfl)) rfl
theorem mk_8_86 : Cond.selects RX10 yX10_pace yX10_pace ∈ TBL := tb_mem (tb_8 (List.mem_of_getElem? (i := 86) rfl)) rfl
theorem mk_8_87 : Cond.code yX10_pace cX10_pace 3 (some .int) ∈ TBL := tb_mem (tb_8 (List.mem_of_getElem? (i := 87) rfl)) rfl
theorem mk_8_88 : Cond.methodLink RL 172 yX10_round ∈ TBL := tb_mem (tb_8 (List.mem_of_getElem? (i := 88) rfl)) rfl
theorem mk_8_89 : Cond.instanceMethod yX10_round ∈ TBL := tb_mem (tb_8 (List.mem_of_getElem? (i := 89) rfl)) rfl
theorem mk_8_90 : Cond.selects RX10 yX10_round yX10_round ∈ TBL := tb_mem (tb_8 (List.mem_of_getElem? (i := 90) rfl)) rfl
theorem mk_8_91 : Cond.code yX10_round cX10_round 4 (some .int) ∈ TBL := tb_mem (tb_8 (List.mem_of_getElem? (i := 91) rfl)) rfl
theorem mk_8_92 : Cond.methodLink RL 175 yX10_basket ∈ TBL := tb_mem (tb_8 (List.mem_of_getElem? (i := 92) rfl)) rfl
theorem mk_8_93 : Cond.instanceMethod yX10_basket ∈ TBL := tb_mem (tb_8 (List.mem_of_getElem? (i := 93) rfl)) rfl
theorem mk_8_94 : Cond.selects RX10 yX10_basket yX10_basket ∈ TBL := tb_mem (tb_8 (List.mem_of_getElem? (i := 94) rfl)) rfl
theorem mk_8_95 : Cond.code yX10_basket cX10_basket 9 (some .int) ∈ TBL := tb_mem (tb_8 (List.mem_of_getElem? (i := 95) rfl)) rfl
theorem mk_8_96 : Cond.constantLong RX10 394 (549755813888) ∈ TBL := tb_mem (tb_8 (List.mem_of_getElem? (i := 96) rfl)) rfl
theorem mk_8_97 : Cond.constantLong RX10 396 (67108863) ∈ TBL := tb_mem (tb_8 (List.mem_of_getElem? (i := 97) rfl)) rfl
theorem mk_8_98 : Cond.methodLink RL 179 yX10_sort ∈ TBL := tb_mem (tb_8 (List.mem_of_getElem? (i := 98) rfl)) rfl
theorem mk_8_99 : Cond.instanceMethod yX10_sort ∈ TBL := tb_mem (tb_8 (List.mem_of_getElem? (i := 99) rfl)) rfl
theorem mk_8_100 : Cond.selects RX10 yX10_sort yX10_sort ∈ TBL := tb_mem (tb_8 (List.mem_of_getElem? (i := 100) rfl)) rfl
theorem mk_8_101 : Cond.code yX10_sort cX10_sort 3 (some .int) ∈ TBL := tb_mem (tb_8 (List.mem_of_getElem? (i := 101) rfl)) rfl
theorem mk_8_102 : Cond.methodLink RL 183 yX10_off ∈ TBL := tb_mem (tb_8 (List.mem_of_getElem? (i := 102) rfl)) rfl
theorem mk_8_103 : Cond.instanceMethod yX10_off ∈ TBL := tb_mem (tb_8 (List.mem_of_getElem? (i := 103) rfl)) rfl
theorem mk_8_104 : Cond.selects RX10 yX10_off yX10_off ∈ TBL := tb_mem (tb_8 (List.mem_of_getElem? (i := 104) rfl)) rfl
theorem mk_8_105 : Cond.code yX10_off cX10_off 1 (some .int) ∈ TBL := tb_mem (tb_8 (List.mem_of_getElem? (i := 105) rfl)) rfl
theorem mk_8_106 : Cond.methodLink RL 186 yX10_often ∈ TBL := tb_mem (tb_8 (List.mem_of_getElem? (i := 106) rfl)) rfl
theorem mk_8_107 : Cond.instanceMethod yX10_often ∈ TBL := tb_mem (tb_8 (List.mem_of_getElem? (i := 107) rfl)) rfl
theorem mk_8_108 : Cond.selects RX10 yX10_often yX10_often ∈ TBL := tb_mem (tb_8 (List.mem_of_getElem? (i := 108) rfl)) rfl
theorem mk_8_109 : Cond.code yX10_often cX10_often 7 (some .int) ∈ TBL := tb_mem (tb_8 (List.mem_of_getElem? (i := 109) rfl)) rfl
theorem mk_8_110 : Cond.methodLink RX10 398 yX10_twice ∈ TBL := tb_mem (tb_8 (List.mem_of_getElem? (i := 110) rfl)) rfl
theorem mk_8_111 : Cond.static yX10_twice ∈ TBL := tb_mem (tb_8 (List.mem_of_getElem? (i := 111) rfl)) rfl
theorem mk_8_112 : Cond.code yX10_twice cX10_twice 4 (some .long) ∈ TBL := tb_mem (tb_8 (List.mem_of_getElem? (i := 112) rfl)) rfl
theorem mk_8_113 : Cond.methodLink RL 190 yX10_changes ∈ TBL := tb_mem (tb_8 (List.mem_of_getElem? (i := 113) rfl)) rfl
theorem mk_8_114 : Cond.instanceMethod yX10_changes ∈ TBL := tb_mem (tb_8 (List.mem_of_getElem? (i := 114) rfl)) rfl
theorem mk_8_115 : Cond.selects RX10 yX10_changes yX10_changes ∈ TBL := tb_mem (tb_8 (List.mem_of_getElem? (i := 115) rfl)) rfl
theorem mk_8_116 : Cond.code yX10_changes cX10_changes 1 (some .int) ∈ TBL := tb_mem (tb_8 (List.mem_of_getElem? (i := 116) rfl)) rfl
theorem mk_8_117 : Cond.methodLink RX10 405 yX10_findChanges ∈ TBL := tb_mem (tb_8 (List.mem_of_getElem? (i := 117) rfl)) rfl
theorem mk_8_119 : Cond.instanceMethod yX10_findChanges ∈ TBL := tb_mem (tb_8 (List.mem_of_getElem? (i := 119) rfl)) rfl
theorem mk_8_120 : Cond.code yX10_findChanges cX10_findChanges 3 none ∈ TBL := tb_mem (tb_8 (List.mem_of_getElem? (i := 120) rfl)) rfl
theorem mk_8_121 : Cond.methodLink RL 194 yX10_changed ∈ TBL := tb_mem (tb_8 (List.mem_of_getElem? (i := 121) rfl)) rfl
theorem mk_8_122 : Cond.instanceMethod yX10_changed ∈ TBL := tb_mem (tb_8 (List.mem_of_getElem? (i := 122) rfl)) rfl
theorem mk_8_123 : Cond.selects RX10 yX10_changed yX10_changed ∈ TBL := tb_mem (tb_8 (List.mem_of_getElem? (i := 123) rfl)) rfl
theorem mk_8_124 : Cond.code yX10_changed cX10_changed 2 (some .int) ∈ TBL := tb_mem (tb_8 (List.mem_of_getElem? (i := 124) rfl)) rfl
theorem mk_8_125 : Cond.methodLink RL 198 yX10_divider ∈ TBL := tb_mem (tb_8 (List.mem_of_getElem? (i := 125) rfl)) rfl
theorem mk_8_126 : Cond.instanceMethod yX10_divider ∈ TBL := tb_mem (tb_8 (List.mem_of_getElem? (i := 126) rfl)) rfl
theorem mk_8_127 : Cond.selects RX10 yX10_divider yX10_divider ∈ TBL := tb_mem (tb_8 (List.mem_of_getElem? (i := 127) rfl)) rfl
theorem mk_8_128 : Cond.code yX10_divider cX10_divider 2 (some .int) ∈ TBL := tb_mem (tb_8 (List.mem_of_getElem? (i := 128) rfl)) rfl
theorem mk_8_129 : Cond.methodLink RL 201 yX10_moves ∈ TBL := tb_mem (tb_8 (List.mem_of_getElem? (i := 129) rfl)) rfl
theorem mk_8_130 : Cond.instanceMethod yX10_moves ∈ TBL := tb_mem (tb_8 (List.mem_of_getElem? (i := 130) rfl)) rfl
theorem mk_8_131 : Cond.selects RX10 yX10_moves yX10_moves ∈ TBL := tb_mem (tb_8 (List.mem_of_getElem? (i := 131) rfl)) rfl
theorem mk_8_132 : Cond.code yX10_moves cX10_moves 4 (some .int) ∈ TBL := tb_mem (tb_8 (List.mem_of_getElem? (i := 132) rfl)) rfl
theorem mk_8_133 : Cond.methodLink RX10 408 yX10_ones ∈ TBL := tb_mem (tb_8 (List.mem_of_getElem? (i := 133) rfl)) rfl
theorem mk_8_134 : Cond.static yX10_ones ∈ TBL := tb_mem (tb_8 (List.mem_of_getElem? (i := 134) rfl)) rfl
theorem mk_8_135 : Cond.code yX10_ones cX10_ones 3 (some .int) ∈ TBL := tb_mem (tb_8 (List.mem_of_getElem? (i := 135) rfl)) rfl
theorem mk_8_136 : Cond.methodLink RX10 411 yX10_mayStay ∈ TBL := tb_mem (tb_8 (List.mem_of_getElem? (i := 136) rfl)) rfl
theorem mk_8_138 : Cond.instanceMethod yX10_mayStay ∈ TBL := tb_mem (tb_8 (List.mem_of_getElem? (i := 138) rfl)) rfl
theorem mk_8_139 : Cond.code yX10_mayStay cX10_mayStay 4 (some .boolean) ∈ TBL := tb_mem (tb_8 (List.mem_of_getElem? (i := 139) rfl)) rfl
theorem mk_8_140 : Cond.methodLink RL 205 yX10_rests ∈ TBL := tb_mem (tb_8 (List.mem_of_getElem? (i := 140) rfl)) rfl
theorem mk_8_141 : Cond.instanceMethod yX10_rests ∈ TBL := tb_mem (tb_8 (List.mem_of_getElem? (i := 141) rfl)) rfl
theorem mk_8_142 : Cond.selects RX10 yX10_rests yX10_rests ∈ TBL := tb_mem (tb_8 (List.mem_of_getElem? (i := 142) rfl)) rfl
theorem mk_8_143 : Cond.code yX10_rests cX10_rests 13 (some .int) ∈ TBL := tb_mem (tb_8 (List.mem_of_getElem? (i := 143) rfl)) rfl
theorem mk_8_144 : Cond.methodLink RX10 418 yX10_doRest ∈ TBL := tb_mem (tb_8 (List.mem_of_getElem? (i := 144) rfl)) rfl
theorem mk_8_146 : Cond.instanceMethod yX10_doRest ∈ TBL := tb_mem (tb_8 (List.mem_of_getElem? (i := 146) rfl)) rfl
theorem mk_8_147 : Cond.code yX10_doRest cX10_doRest 10 (some .boolean) ∈ TBL := tb_mem (tb_8 (List.mem_of_getElem? (i := 147) rfl)) rfl
theorem mk_8_148 : Cond.methodLink RX10 414 yX10_gets ∈ TBL := tb_mem (tb_8 (List.mem_of_getElem? (i := 148) rfl)) rfl
theorem mk_8_150 : Cond.instanceMethod yX10_gets ∈ TBL := tb_mem (tb_8 (List.mem_of_getElem? (i := 150) rfl)) rfl
theorem mk_8_151 : Cond.code yX10_gets cX10_gets 9 (some .int) ∈ TBL := tb_mem (tb_8 (List.mem_of_getElem? (i := 151) rfl)) rfl
theorem mk_8_152 : Cond.methodLink RL 209 yX10_image ∈ TBL := tb_mem (tb_8 (List.mem_of_getElem? (i := 152) rfl)) rfl
theorem mk_8_153 : Cond.instanceMethod yX10_image ∈ TBL := tb_mem (tb_8 (List.mem_of_getElem? (i := 153) rfl)) rfl
theorem mk_8_154 : Cond.selects RX10 yX10_image yX10_image ∈ TBL := tb_mem (tb_8 (List.mem_of_getElem? (i := 154) rfl)) rfl
theorem mk_8_155 : Cond.code yX10_image cX10_image 1 (some .int) ∈ TBL := tb_mem (tb_8 (List.mem_of_getElem? (i := 155) rfl)) rfl
theorem mk_8_156 : Cond.methodLink RX10 426 yX10_copies_ ∈ TBL := tb_mem (tb_8 (List.mem_of_getElem? (i := 156) rfl)) rfl
theorem mk_8_158 : Cond.instanceMethod yX10_copies_ ∈ TBL := tb_mem (tb_8 (List.mem_of_getElem? (i := 158) rfl)) rfl
theorem mk_8_159 : Cond.code yX10_copies_ cX10_copies_ 4 none ∈ TBL := tb_mem (tb_8 (List.mem_of_getElem? (i := 159) rfl)) rfl
theorem mk_8_160 : Cond.methodLink RX10 422 yX10_copies ∈ TBL := tb_mem (tb_8 (List.mem_of_getElem? (i := 160) rfl)) rfl
theorem mk_8_162 : Cond.instanceMethod yX10_copies ∈ TBL := tb_mem (tb_8 (List.mem_of_getElem? (i := 162) rfl)) rfl
theorem mk_8_163 : Cond.code yX10_copies cX10_copies 6 (some .int) ∈ TBL := tb_mem (tb_8 (List.mem_of_getElem? (i := 163) rfl)) rfl
theorem mk_8_164 : Cond.methodLink RL 213 yX10_restore ∈ TBL := tb_mem (tb_8 (List.mem_of_getElem? (i := 164) rfl)) rfl
theorem mk_8_165 : Cond.instanceMethod yX10_restore ∈ TBL := tb_mem (tb_8 (List.mem_of_getElem? (i := 165) rfl)) rfl
theorem mk_8_166 : Cond.selects RX10 yX10_restore yX10_restore ∈ TBL := tb_mem (tb_8 (List.mem_of_getElem? (i := 166) rfl)) rfl
theorem mk_8_167 : Cond.code yX10_restore cX10_restore 1 (some .int) ∈ TBL := tb_mem (tb_8 (List.mem_of_getElem? (i := 167) rfl)) rfl
theorem mk_8_168 : Cond.methodLink RL 217 yX10_status ∈ TBL := tb_mem (tb_8 (List.mem_of_getElem? (i := 168) rfl)) rfl
theorem mk_8_169 : Cond.instanceMethod yX10_status ∈ TBL := tb_mem (tb_8 (List.mem_of_getElem? (i := 169) rfl)) rfl
theorem mk_8_170 : Cond.selects RX10 yX10_status yX10_status ∈ TBL := tb_mem (tb_8 (List.mem_of_getElem? (i := 170) rfl)) rfl
theorem mk_8_171 : Cond.code yX10_status cX10_status 2 (some .int) ∈ TBL := tb_mem (tb_8 (List.mem_of_getElem? (i := 171) rfl)) rfl
theorem mk_8_172 : Cond.methodLink RL 221 yX10_count ∈ TBL := tb_mem (tb_8 (List.mem_of_getElem? (i := 172) rfl)) rfl
theorem mk_8_173 : Cond.instanceMethod yX10_count ∈ TBL := tb_mem (tb_8 (List.mem_of_getElem? (i := 173) rfl)) rfl
theorem mk_8_174 : Cond.selects RX10 yX10_count yX10_count ∈ TBL := tb_mem (tb_8 (List.mem_of_getElem? (i := 174) rfl)) rfl
theorem mk_8_175 : Cond.code yX10_count cX10_count 4 (some .int) ∈ TBL := tb_mem (tb_8 (List.mem_of_getElem? (i := 175) rfl)) rfl
theorem mk_8_194 : Cond.fieldLink RJ0 9 "java/lang/String" "value" "[B" ∈ TBL := tb_mem (tb_8 (List.mem_of_getElem? (i := 194) rfl)) rfl
theorem mk_8_195 : Cond.fieldLink RJ0 15 "java/lang/String" "coder" "B" ∈ TBL := tb_mem (tb_8 (List.mem_of_getElem? (i := 195) rfl)) rfl
theorem mk_P_0 : Cond.selects RX9 yX9_putOnTape yX9_putOnTape ∈ TBL := tb_mem (tb_P (List.mem_of_getElem? (i := 0) rfl)) rfl
theorem mk_P_1 : Cond.selects RX1 yX1_begin yX1_begin ∈ TBL := tb_mem (tb_P (List.mem_of_getElem? (i := 1) rfl)) rfl
theorem mk_P_2 : Cond.selects RX1 yX1_turn yX1_turn ∈ TBL := tb_mem (tb_P (List.mem_of_getElem? (i := 2) rfl)) rfl
theorem mk_P_3 : Cond.selects RX1 yX1_nextOf yX1_nextOf ∈ TBL := tb_mem (tb_P (List.mem_of_getElem? (i := 3) rfl)) rfl
theorem mk_P_4 : Cond.selects RX1 yX1_leave yX1_leave ∈ TBL := tb_mem (tb_P (List.mem_of_getElem? (i := 4) rfl)) rfl
theorem mk_P_5 : Cond.selects RX1 yX1_whoStandsAt yX1_whoStandsAt ∈ TBL := tb_mem (tb_P (List.mem_of_getElem? (i := 5) rfl)) rfl
theorem mk_P_6 : Cond.selects RX1 yX1_come yX1_come ∈ TBL := tb_mem (tb_P (List.mem_of_getElem? (i := 6) rfl)) rfl
theorem mk_P_7 : Cond.selects RX1 yX1_goThrough yX1_goThrough ∈ TBL := tb_mem (tb_P (List.mem_of_getElem? (i := 7) rfl)) rfl
theorem mk_P_8 : Cond.selects RX1 yX1_holdsUp yX1_holdsUp ∈ TBL := tb_mem (tb_P (List.mem_of_getElem? (i := 8) rfl)) rfl
theorem mk_P_9 : Cond.selects RX1 yX1_draw yX1_draw ∈ TBL := tb_mem (tb_P (List.mem_of_getElem? (i := 9) rfl)) rfl
theorem mk_P_10 : Cond.selects RX1 yX1_buysIt yX1_buysIt ∈ TBL := tb_mem (tb_P (List.mem_of_getElem? (i := 10) rfl)) rfl
theorem mk_P_11 : Cond.selects RX1 yX1_drawnCrate yX1_drawnCrate ∈ TBL := tb_mem (tb_P (List.mem_of_getElem? (i := 11) rfl)) rfl
theorem mk_P_12 : Cond.selects RX1 yX1_nextDone yX1_nextDone ∈ TBL := tb_mem (tb_P (List.mem_of_getElem? (i := 12) rfl)) rfl
theorem mk_P_13 : Cond.selects RX1 yX1_waitOn yX1_waitOn ∈ TBL := tb_mem (tb_P (List.mem_of_getElem? (i := 13) rfl)) rfl
theorem mk_P_14 : Cond.selects RX9 yX9_imageAt yX9_imageAt ∈ TBL := tb_mem (tb_P (List.mem_of_getElem? (i := 14) rfl)) rfl
theorem mk_P_15 : Cond.selects RX9 yX9_need yX9_need ∈ TBL := tb_mem (tb_P (List.mem_of_getElem? (i := 15) rfl)) rfl
theorem mk_P_16 : Cond.selects "java/lang/Throwable" ⟨"java/lang/Throwable", "fillInStackTrace", "(I)Ljava/lang/Throwable;"⟩ ⟨"java/lang/Throwable", "fillInStackTrace", "(I)Ljava/lang/Throwable;"⟩ ∈ TBL := tb_mem (tb_P (List.mem_of_getElem? (i := 16) rfl)) rfl
theorem mk_P_17 : Cond.selects RX3 yX3_skipBlanks yX3_skipBlanks ∈ TBL := tb_mem (tb_P (List.mem_of_getElem? (i := 17) rfl)) rfl
theorem mk_P_18 : Cond.selects RX3 yX3_readClause yX3_readClause ∈ TBL := tb_mem (tb_P (List.mem_of_getElem? (i := 18) rfl)) rfl
theorem mk_P_19 : Cond.selects RX3 yX3_readWord yX3_readWord ∈ TBL := tb_mem (tb_P (List.mem_of_getElem? (i := 19) rfl)) rfl
theorem mk_P_20 : Cond.selects RX3 yX3_stands yX3_stands ∈ TBL := tb_mem (tb_P (List.mem_of_getElem? (i := 20) rfl)) rfl
theorem mk_P_21 : Cond.selects RX3 yX3_faultOfWord yX3_faultOfWord ∈ TBL := tb_mem (tb_P (List.mem_of_getElem? (i := 21) rfl)) rfl
theorem mk_P_22 : Cond.selects RX3 yX3_blame yX3_blame ∈ TBL := tb_mem (tb_P (List.mem_of_getElem? (i := 22) rfl)) rfl
theorem mk_P_23 : Cond.selects RX3 yX3_readNumbers yX3_readNumbers ∈ TBL := tb_mem (tb_P (List.mem_of_getElem? (i := 23) rfl)) rfl
theorem mk_P_24 : Cond.selects RX3 yX3_readCrate yX3_readCrate ∈ TBL := tb_mem (tb_P (List.mem_of_getElem? (i := 24) rfl)) rfl
theorem mk_P_25 : Cond.selects RX3 yX3_number yX3_number ∈ TBL := tb_mem (tb_P (List.mem_of_getElem? (i := 25) rfl)) rfl
theorem mk_P_26 : Cond.selects RX3 yX3_ends yX3_ends ∈ TBL := tb_mem (tb_P (List.mem_of_getElem? (i := 26) rfl)) rfl
theorem mk_P_27 : Cond.selects RX3 yX3_next yX3_next ∈ TBL := tb_mem (tb_P (List.mem_of_getElem? (i := 27) rfl)) rfl
theorem mk_P_28 : Cond.selects RX3 yX3_readSleeve yX3_readSleeve ∈ TBL := tb_mem (tb_P (List.mem_of_getElem? (i := 28) rfl)) rfl
theorem mk_P_29 : Cond.selects RX7 yX7_ownCrate yX7_ownCrate ∈ TBL := tb_mem (tb_P (List.mem_of_getElem? (i := 29) rfl)) rfl
theorem mk_P_30 : Cond.selects RX3 yX3_readLies yX3_readLies ∈ TBL := tb_mem (tb_P (List.mem_of_getElem? (i := 30) rfl)) rfl
theorem mk_P_31 : Cond.selects RX3 yX3_readDisc yX3_readDisc ∈ TBL := tb_mem (tb_P (List.mem_of_getElem? (i := 31) rfl)) rfl
theorem mk_P_32 : Cond.selects RX3 yX3_readLooker yX3_readLooker ∈ TBL := tb_mem (tb_P (List.mem_of_getElem? (i := 32) rfl)) rfl
theorem mk_P_33 : Cond.selects RX3 yX3_readLeft yX3_readLeft ∈ TBL := tb_mem (tb_P (List.mem_of_getElem? (i := 33) rfl)) rfl
theorem mk_P_34 : Cond.selects RX3 yX3_readMiss yX3_readMiss ∈ TBL := tb_mem (tb_P (List.mem_of_getElem? (i := 34) rfl)) rfl
theorem mk_P_35 : Cond.selects RX3 yX3_readStop yX3_readStop ∈ TBL := tb_mem (tb_P (List.mem_of_getElem? (i := 35) rfl)) rfl
theorem mk_P_36 : Cond.selects RX3 yX3_readBack yX3_readBack ∈ TBL := tb_mem (tb_P (List.mem_of_getElem? (i := 36) rfl)) rfl
theorem mk_P_37 : Cond.selects RX9 yX9_needCrate yX9_needCrate ∈ TBL := tb_mem (tb_P (List.mem_of_getElem? (i := 37) rfl)) rfl
theorem mk_P_38 : Cond.selects RX9 yX9_needSleeve yX9_needSleeve ∈ TBL := tb_mem (tb_P (List.mem_of_getElem? (i := 38) rfl)) rfl
theorem mk_P_39 : Cond.selects RX9 yX9_kindOf yX9_kindOf ∈ TBL := tb_mem (tb_P (List.mem_of_getElem? (i := 39) rfl)) rfl
theorem mk_P_40 : Cond.selects RX9 yX9_needLooker yX9_needLooker ∈ TBL := tb_mem (tb_P (List.mem_of_getElem? (i := 40) rfl)) rfl
theorem mk_P_41 : Cond.selects RX9 yX9_needLying yX9_needLying ∈ TBL := tb_mem (tb_P (List.mem_of_getElem? (i := 41) rfl)) rfl
theorem mk_P_42 : Cond.selects RX8 yX8_clearShares yX8_clearShares ∈ TBL := tb_mem (tb_P (List.mem_of_getElem? (i := 42) rfl)) rfl
theorem mk_P_43 : Cond.selects RX8 yX8_give yX8_give ∈ TBL := tb_mem (tb_P (List.mem_of_getElem? (i := 43) rfl)) rfl
theorem mk_P_44 : Cond.selects RX8 yX8_putBackOnce yX8_putBackOnce ∈ TBL := tb_mem (tb_P (List.mem_of_getElem? (i := 44) rfl)) rfl
theorem mk_P_45 : Cond.selects RX8 yX8_handOn yX8_handOn ∈ TBL := tb_mem (tb_P (List.mem_of_getElem? (i := 45) rfl)) rfl
theorem mk_P_46 : Cond.selects RX8 yX8_besideOrHere yX8_besideOrHere ∈ TBL := tb_mem (tb_P (List.mem_of_getElem? (i := 46) rfl)) rfl
theorem mk_P_47 : Cond.selects RX8 yX8_reachedFrom yX8_reachedFrom ∈ TBL := tb_mem (tb_P (List.mem_of_getElem? (i := 47) rfl)) rfl
theorem mk_P_48 : Cond.selects RX9 yX9_needSearch yX9_needSearch ∈ TBL := tb_mem (tb_P (List.mem_of_getElem? (i := 48) rfl)) rfl
theorem mk_P_49 : Cond.selects RX8 yX8_bestBut yX8_bestBut ∈ TBL := tb_mem (tb_P (List.mem_of_getElem? (i := 49) rfl)) rfl
theorem mk_P_50 : Cond.selects RX8 yX8_isAhead yX8_isAhead ∈ TBL := tb_mem (tb_P (List.mem_of_getElem? (i := 50) rfl)) rfl
theorem mk_P_51 : Cond.selects RX8 yX8_secondsOf yX8_secondsOf ∈ TBL := tb_mem (tb_P (List.mem_of_getElem? (i := 51) rfl)) rfl
theorem mk_P_52 : Cond.selects RX0 yX0_offer yX0_offer ∈ TBL := tb_mem (tb_P (List.mem_of_getElem? (i := 52) rfl)) rfl
theorem mk_P_53 : Cond.selects RX9 yX9_standByNumber yX9_standByNumber ∈ TBL := tb_mem (tb_P (List.mem_of_getElem? (i := 53) rfl)) rfl
theorem mk_P_54 : Cond.selects RX4 yX4_choose yX4_choose ∈ TBL := tb_mem (tb_P (List.mem_of_getElem? (i := 54) rfl)) rfl
theorem mk_P_55 : Cond.selects RX4 yX4_isRest yX4_isRest ∈ TBL := tb_mem (tb_P (List.mem_of_getElem? (i := 55) rfl)) rfl
theorem mk_P_56 : Cond.selects RX4 yX4_wouldChange yX4_wouldChange ∈ TBL := tb_mem (tb_P (List.mem_of_getElem? (i := 56) rfl)) rfl
theorem mk_P_57 : Cond.selects RX4 yX4_gainOf yX4_gainOf ∈ TBL := tb_mem (tb_P (List.mem_of_getElem? (i := 57) rfl)) rfl
theorem mk_P_58 : Cond.selects RX4 yX4_digits yX4_digits ∈ TBL := tb_mem (tb_P (List.mem_of_getElem? (i := 58) rfl)) rfl
theorem mk_P_59 : Cond.selects RX10 yX10_clears yX10_clears ∈ TBL := tb_mem (tb_P (List.mem_of_getElem? (i := 59) rfl)) rfl
theorem mk_P_60 : Cond.selects RX10 yX10_sets yX10_sets ∈ TBL := tb_mem (tb_P (List.mem_of_getElem? (i := 60) rfl)) rfl
theorem mk_P_61 : Cond.selects RX10 yX10_comesTo yX10_comesTo ∈ TBL := tb_mem (tb_P (List.mem_of_getElem? (i := 61) rfl)) rfl
theorem mk_P_62 : Cond.selects RX10 yX10_may yX10_may ∈ TBL := tb_mem (tb_P (List.mem_of_getElem? (i := 62) rfl)) rfl
theorem mk_P_63 : Cond.selects RX10 yX10_begins yX10_begins ∈ TBL := tb_mem (tb_P (List.mem_of_getElem? (i := 63) rfl)) rfl
theorem mk_P_64 : Cond.selects RX10 yX10_fine yX10_fine ∈ TBL := tb_mem (tb_P (List.mem_of_getElem? (i := 64) rfl)) rfl
theorem mk_P_65 : Cond.selects RX10 yX10_isMore yX10_isMore ∈ TBL := tb_mem (tb_P (List.mem_of_getElem? (i := 65) rfl)) rfl
theorem mk_P_66 : Cond.selects RX10 yX10_here yX10_here ∈ TBL := tb_mem (tb_P (List.mem_of_getElem? (i := 66) rfl)) rfl
theorem mk_P_67 : Cond.selects RX10 yX10_word yX10_word ∈ TBL := tb_mem (tb_P (List.mem_of_getElem? (i := 67) rfl)) rfl
theorem mk_P_68 : Cond.selects RX10 yX10_wrong yX10_wrong ∈ TBL := tb_mem (tb_P (List.mem_of_getElem? (i := 68) rfl)) rfl
theorem mk_P_69 : Cond.selects RX10 yX10_pass yX10_pass ∈ TBL := tb_mem (tb_P (List.mem_of_getElem? (i := 69) rfl)) rfl
theorem mk_P_70 : Cond.selects RX10 yX10_readNumber yX10_readNumber ∈ TBL := tb_mem (tb_P (List.mem_of_getElem? (i := 70) rfl)) rfl
theorem mk_P_71 : Cond.selects RX10 yX10_readOther yX10_readOther ∈ TBL := tb_mem (tb_P (List.mem_of_getElem? (i := 71) rfl)) rfl
theorem mk_P_72 : Cond.selects RX10 yX10_ownOf yX10_ownOf ∈ TBL := tb_mem (tb_P (List.mem_of_getElem? (i := 72) rfl)) rfl
theorem mk_P_73 : Cond.selects RX10 yX10_sign yX10_sign ∈ TBL := tb_mem (tb_P (List.mem_of_getElem? (i := 73) rfl)) rfl
theorem mk_P_74 : Cond.selects RX10 yX10_result yX10_result ∈ TBL := tb_mem (tb_P (List.mem_of_getElem? (i := 74) rfl)) rfl
theorem mk_P_75 : Cond.selects RX10 yX10_isCrate yX10_isCrate ∈ TBL := tb_mem (tb_P (List.mem_of_getElem? (i := 75) rfl)) rfl
theorem mk_P_76 : Cond.selects RX10 yX10_isSleeve yX10_isSleeve ∈ TBL := tb_mem (tb_P (List.mem_of_getElem? (i := 76) rfl)) rfl
theorem mk_P_77 : Cond.selects RX10 yX10_own yX10_own ∈ TBL := tb_mem (tb_P (List.mem_of_getElem? (i := 77) rfl)) rfl
theorem mk_P_78 : Cond.selects RX10 yX10_kindOf yX10_kindOf ∈ TBL := tb_mem (tb_P (List.mem_of_getElem? (i := 78) rfl)) rfl
theorem mk_P_79 : Cond.selects RX10 yX10_away yX10_away ∈ TBL := tb_mem (tb_P (List.mem_of_getElem? (i := 79) rfl)) rfl
theorem mk_P_80 : Cond.selects RX10 yX10_isLooker yX10_isLooker ∈ TBL := tb_mem (tb_P (List.mem_of_getElem? (i := 80) rfl)) rfl
theorem mk_P_81 : Cond.selects RX10 yX10_goesOut yX10_goesOut ∈ TBL := tb_mem (tb_P (List.mem_of_getElem? (i := 81) rfl)) rfl
theorem mk_P_82 : Cond.selects RX10 yX10_swaps yX10_swaps ∈ TBL := tb_mem (tb_P (List.mem_of_getElem? (i := 82) rfl)) rfl
theorem mk_P_83 : Cond.selects RX10 yX10_standsAt yX10_standsAt ∈ TBL := tb_mem (tb_P (List.mem_of_getElem? (i := 83) rfl)) rfl
theorem mk_P_84 : Cond.selects RX10 yX10_asTold yX10_asTold ∈ TBL := tb_mem (tb_P (List.mem_of_getElem? (i := 84) rfl)) rfl
theorem mk_P_85 : Cond.selects RX10 yX10_goes yX10_goes ∈ TBL := tb_mem (tb_P (List.mem_of_getElem? (i := 85) rfl)) rfl
theorem mk_P_86 : Cond.selects RX10 yX10_acts yX10_acts ∈ TBL := tb_mem (tb_P (List.mem_of_getElem? (i := 86) rfl)) rfl
theorem mk_P_87 : Cond.selects RX10 yX10_whoAt yX10_whoAt ∈ TBL := tb_mem (tb_P (List.mem_of_getElem? (i := 87) rfl)) rfl
theorem mk_P_88 : Cond.selects RX10 yX10_comes yX10_comes ∈ TBL := tb_mem (tb_P (List.mem_of_getElem? (i := 88) rfl)) rfl
theorem mk_P_89 : Cond.selects RX10 yX10_draw yX10_draw ∈ TBL := tb_mem (tb_P (List.mem_of_getElem? (i := 89) rfl)) rfl
theorem mk_P_90 : Cond.selects RX10 yX10_putFrom yX10_putFrom ∈ TBL := tb_mem (tb_P (List.mem_of_getElem? (i := 90) rfl)) rfl
theorem mk_P_91 : Cond.selects RX10 yX10_weights yX10_weights ∈ TBL := tb_mem (tb_P (List.mem_of_getElem? (i := 91) rfl)) rfl
theorem mk_P_92 : Cond.selects RX10 yX10_nextOf yX10_nextOf ∈ TBL := tb_mem (tb_P (List.mem_of_getElem? (i := 92) rfl)) rfl
theorem mk_P_93 : Cond.selects RX10 yX10_keeps yX10_keeps ∈ TBL := tb_mem (tb_P (List.mem_of_getElem? (i := 93) rfl)) rfl
theorem mk_P_94 : Cond.selects RX10 yX10_offAll yX10_offAll ∈ TBL := tb_mem (tb_P (List.mem_of_getElem? (i := 94) rfl)) rfl
theorem mk_P_95 : Cond.selects RX10 yX10_back yX10_back ∈ TBL := tb_mem (tb_P (List.mem_of_getElem? (i := 95) rfl)) rfl
theorem mk_P_96 : Cond.selects RX10 yX10_total yX10_total ∈ TBL := tb_mem (tb_P (List.mem_of_getElem? (i := 96) rfl)) rfl
theorem mk_P_97 : Cond.selects RX10 yX10_lastGone yX10_lastGone ∈ TBL := tb_mem (tb_P (List.mem_of_getElem? (i := 97) rfl)) rfl
theorem mk_P_98 : Cond.selects RX10 yX10_findOdds yX10_findOdds ∈ TBL := tb_mem (tb_P (List.mem_of_getElem? (i := 98) rfl)) rfl
theorem mk_P_99 : Cond.selects RX10 yX10_stepped yX10_stepped ∈ TBL := tb_mem (tb_P (List.mem_of_getElem? (i := 99) rfl)) rfl
theorem mk_P_100 : Cond.selects RX10 yX10_findOrder yX10_findOrder ∈ TBL := tb_mem (tb_P (List.mem_of_getElem? (i := 100) rfl)) rfl
theorem mk_P_101 : Cond.selects RX10 yX10_seconds yX10_seconds ∈ TBL := tb_mem (tb_P (List.mem_of_getElem? (i := 101) rfl)) rfl
theorem mk_P_102 : Cond.selects RX10 yX10_findChanges yX10_findChanges ∈ TBL := tb_mem (tb_P (List.mem_of_getElem? (i := 102) rfl)) rfl
theorem mk_P_103 : Cond.selects RX10 yX10_mayStay yX10_mayStay ∈ TBL := tb_mem (tb_P (List.mem_of_getElem? (i := 103) rfl)) rfl
theorem mk_P_104 : Cond.selects RX10 yX10_doRest yX10_doRest ∈ TBL := tb_mem (tb_P (List.mem_of_getElem? (i := 104) rfl)) rfl
theorem mk_P_105 : Cond.selects RX10 yX10_gets yX10_gets ∈ TBL := tb_mem (tb_P (List.mem_of_getElem? (i := 105) rfl)) rfl
theorem mk_P_106 : Cond.selects RX10 yX10_copies_ yX10_copies_ ∈ TBL := tb_mem (tb_P (List.mem_of_getElem? (i := 106) rfl)) rfl
theorem mk_P_107 : Cond.selects RX10 yX10_copies yX10_copies ∈ TBL := tb_mem (tb_P (List.mem_of_getElem? (i := 107) rfl)) rfl
