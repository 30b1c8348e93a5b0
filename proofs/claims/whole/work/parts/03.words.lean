/-! the good words of the tables; membership of each word that a walk asks -/
def sy_sels : List Cond := [Cond.selects RX8 yX7_goOn yX7_goOn, Cond.selects RX8 yX7_standBehind yX7_standBehind, Cond.selects RX9 yX7_goOn yX7_goOn, Cond.selects RX9 yX7_standBehind yX7_standBehind]
def sy_W : List Cond := (sy_sels ++ lw_tbl).filter goodWord
theorem sy_W_of {w : Cond} (h : w ∈ lw_tbl) (g : goodWord w = true) : w ∈ sy_W := List.mem_filter.mpr ⟨List.mem_append_right _ h, g⟩
theorem sy_W_os {w : Cond} (h : w ∈ sy_sels) (g : goodWord w = true) : w ∈ sy_W := List.mem_filter.mpr ⟨List.mem_append_left _ h, g⟩
theorem sy_W_good : ∀ w ∈ sy_W, goodWord w = true := fun w h => (List.mem_filter.mp h).2
theorem tk_1 : ∀ w ∈ tables_1_1, w ∈ lw_tbl := fun _ h => List.mem_append_right _ (List.mem_append_left _ (h))
theorem tk_2 : ∀ w ∈ tables_1_2, w ∈ lw_tbl := fun _ h => List.mem_append_right _ (List.mem_append_right _ (List.mem_append_left _ (h)))
theorem tk_3 : ∀ w ∈ tables_1_3, w ∈ lw_tbl := fun _ h => List.mem_append_right _ (List.mem_append_right _ (List.mem_append_right _ (List.mem_append_left _ (h))))
theorem tk_4 : ∀ w ∈ tables_1_4, w ∈ lw_tbl := fun _ h => List.mem_append_right _ (List.mem_append_right _ (List.mem_append_right _ (List.mem_append_right _ (List.mem_append_left _ (h)))))
theorem tk_5 : ∀ w ∈ tables_1_5, w ∈ lw_tbl := fun _ h => List.mem_append_right _ (List.mem_append_right _ (List.mem_append_right _ (List.mem_append_right _ (List.mem_append_right _ (List.mem_append_left _ (h))))))
theorem tk_6 : ∀ w ∈ tables_1_6, w ∈ lw_tbl := fun _ h => List.mem_append_right _ (List.mem_append_right _ (List.mem_append_right _ (List.mem_append_right _ (List.mem_append_right _ (List.mem_append_right _ (h))))))
theorem tp_1 : ∀ q ∈ lw_privs_1, Cond.selects q.1.cls q.1 q.1 ∈ lw_tbl := fun q h => List.mem_append_left _ (List.mem_map.mpr ⟨q, List.mem_append_left _ (h), rfl⟩)
theorem tp_2 : ∀ q ∈ lw_privs_2, Cond.selects q.1.cls q.1 q.1 ∈ lw_tbl := fun q h => List.mem_append_left _ (List.mem_map.mpr ⟨q, List.mem_append_right _ (List.mem_append_left _ (h)), rfl⟩)
theorem tp_3 : ∀ q ∈ lw_privs_3, Cond.selects q.1.cls q.1 q.1 ∈ lw_tbl := fun q h => List.mem_append_left _ (List.mem_map.mpr ⟨q, List.mem_append_right _ (List.mem_append_right _ (List.mem_append_left _ (h))), rfl⟩)
theorem tp_4 : ∀ q ∈ lw_privs_4, Cond.selects q.1.cls q.1 q.1 ∈ lw_tbl := fun q h => List.mem_append_left _ (List.mem_map.mpr ⟨q, List.mem_append_right _ (List.mem_append_right _ (List.mem_append_right _ (h))), rfl⟩)
theorem wm_0 : (Cond.classLink RL 7 RX11) ∈ sy_W := sy_W_of (tk_1 _ (List.mem_of_getElem? (i := 16) rfl)) rfl
theorem wm_1 : (Cond.instantiable RX11 16) ∈ sy_W := sy_W_of (tk_1 _ (List.mem_of_getElem? (i := 17) rfl)) rfl
theorem wm_2 : (Cond.initialized RX11) ∈ sy_W := sy_W_of (tk_1 _ (List.mem_of_getElem? (i := 1) rfl)) rfl
theorem wm_3 : (Cond.classLink RL 10 RX12) ∈ sy_W := sy_W_of (tk_4 _ (List.mem_of_getElem? (i := 224) rfl)) rfl
theorem wm_4 : (Cond.instantiable RX12 35) ∈ sy_W := sy_W_of (tk_4 _ (List.mem_of_getElem? (i := 225) rfl)) rfl
theorem wm_5 : (Cond.initialized RX12) ∈ sy_W := sy_W_of (tk_1 _ (List.mem_of_getElem? (i := 13) rfl)) rfl
theorem wm_6 : (Cond.methodLink RL 9 yX11_init) ∈ sy_W := sy_W_of (tk_1 _ (List.mem_of_getElem? (i := 18) rfl)) rfl
theorem wm_7 : (Cond.instanceMethod yX11_init) ∈ sy_W := sy_W_of (tk_1 _ (List.mem_of_getElem? (i := 19) rfl)) rfl
theorem wm_8 : (Cond.code yX11_init cX11_init 4 none) ∈ sy_W := sy_W_of (tk_1 _ (List.mem_of_getElem? (i := 20) rfl)) rfl
theorem wm_9 : (Cond.methodLink RX11 1 objectInit) ∈ sy_W := sy_W_of (tk_1 _ (List.mem_of_getElem? (i := 21) rfl)) rfl
theorem wm_10 : (Cond.instanceMethod objectInit) ∈ sy_W := sy_W_of (tk_1 _ (List.mem_of_getElem? (i := 22) rfl)) rfl
theorem wm_11 : (Cond.code objectInit ⟨#[0xb1]⟩ 1 none) ∈ sy_W := sy_W_of (tk_1 _ (List.mem_of_getElem? (i := 23) rfl)) rfl
theorem wm_12 : (Cond.classLink RX11 7 RX3) ∈ sy_W := sy_W_of (tk_1 _ (List.mem_of_getElem? (i := 24) rfl)) rfl
theorem wm_13 : (Cond.instantiable RX3 10) ∈ sy_W := sy_W_of (tk_1 _ (List.mem_of_getElem? (i := 25) rfl)) rfl
theorem wm_14 : (Cond.initialized RX3) ∈ sy_W := sy_W_of (tk_1 _ (List.mem_of_getElem? (i := 2) rfl)) rfl
theorem wm_15 : (Cond.classLink RX11 12 RX10) ∈ sy_W := sy_W_of (tk_1 _ (List.mem_of_getElem? (i := 91) rfl)) rfl
theorem wm_16 : (Cond.instantiable RX10 11) ∈ sy_W := sy_W_of (tk_1 _ (List.mem_of_getElem? (i := 93) rfl)) rfl
theorem wm_17 : (Cond.initialized RX10) ∈ sy_W := sy_W_of (tk_1 _ (List.mem_of_getElem? (i := 3) rfl)) rfl
theorem wm_18 : (Cond.fieldLink RX11 17 "SkyTurns" "told" "LSkyTurns$Edge;") ∈ sy_W := sy_W_of (tk_2 _ (List.mem_of_getElem? (i := 143) rfl)) rfl
theorem wm_19 : (Cond.classLink RX11 21 RX6) ∈ sy_W := sy_W_of (tk_1 _ (List.mem_of_getElem? (i := 147) rfl)) rfl
theorem wm_20 : (Cond.instantiable RX6 9) ∈ sy_W := sy_W_of (tk_1 _ (List.mem_of_getElem? (i := 148) rfl)) rfl
theorem wm_21 : (Cond.initialized RX6) ∈ sy_W := sy_W_of (tk_1 _ (List.mem_of_getElem? (i := 4) rfl)) rfl
theorem wm_22 : (Cond.fieldLink RX11 24 "SkyTurns" "reader" "LSkyTurns$Reader;") ∈ sy_W := sy_W_of (tk_2 _ (List.mem_of_getElem? (i := 144) rfl)) rfl
theorem wm_23 : (Cond.fieldLink RX11 28 "SkyTurns" "now" "LSkyTurns$Sky;") ∈ sy_W := sy_W_of (tk_2 _ (List.mem_of_getElem? (i := 145) rfl)) rfl
theorem wm_24 : (Cond.fieldLink RX11 32 "SkyTurns" "trial" "LSkyTurns$Sky;") ∈ sy_W := sy_W_of (tk_2 _ (List.mem_of_getElem? (i := 146) rfl)) rfl
theorem wm_25 : (Cond.classLink RX11 35 RX5) ∈ sy_W := sy_W_of (tk_1 _ (List.mem_of_getElem? (i := 187) rfl)) rfl
theorem wm_26 : (Cond.instantiable RX5 3) ∈ sy_W := sy_W_of (tk_1 _ (List.mem_of_getElem? (i := 188) rfl)) rfl
theorem wm_27 : (Cond.initialized RX5) ∈ sy_W := sy_W_of (tk_1 _ (List.mem_of_getElem? (i := 5) rfl)) rfl
theorem wm_28 : (Cond.fieldLink RX11 38 "SkyTurns" "past" "LSkyTurns$Past;") ∈ sy_W := sy_W_of (tk_2 _ (List.mem_of_getElem? (i := 147) rfl)) rfl
theorem wm_29 : (Cond.fieldLink RX11 42 "SkyTurns" "images" "[LSkyTurns$Sky;") ∈ sy_W := sy_W_of (tk_2 _ (List.mem_of_getElem? (i := 148) rfl)) rfl
theorem wm_30 : (Cond.arrayClass .boolean) ∈ sy_W := sy_W_of (tk_2 _ (List.mem_of_getElem? (i := 15) rfl)) rfl
theorem wm_31 : (Cond.fieldLink RX11 46 "SkyTurns" "imageKept" "[Z") ∈ sy_W := sy_W_of (tk_2 _ (List.mem_of_getElem? (i := 149) rfl)) rfl
theorem wm_32 : (Cond.arrayClass .int) ∈ sy_W := sy_W_of (tk_1 _ (List.mem_of_getElem? (i := 90) rfl)) rfl
theorem wm_33 : (Cond.fieldLink RX11 50 "SkyTurns" "imageSeed" "[I") ∈ sy_W := sy_W_of (tk_2 _ (List.mem_of_getElem? (i := 150) rfl)) rfl
theorem wm_34 : (Cond.classLink RX11 54 RX9) ∈ sy_W := sy_W_of (tk_1 _ (List.mem_of_getElem? (i := 206) rfl)) rfl
theorem wm_35 : (Cond.instantiable RX9 9) ∈ sy_W := sy_W_of (tk_1 _ (List.mem_of_getElem? (i := 207) rfl)) rfl
theorem wm_36 : (Cond.initialized RX9) ∈ sy_W := sy_W_of (tk_1 _ (List.mem_of_getElem? (i := 7) rfl)) rfl
theorem wm_37 : (Cond.fieldLink RX11 59 "SkyTurns" "shiftRows" "LSkyTurns$ShiftRows;") ∈ sy_W := sy_W_of (tk_2 _ (List.mem_of_getElem? (i := 151) rfl)) rfl
theorem wm_38 : (Cond.classLink RX11 63 RX8) ∈ sy_W := sy_W_of (tk_2 _ (List.mem_of_getElem? (i := 16) rfl)) rfl
theorem wm_39 : (Cond.instantiable RX8 10) ∈ sy_W := sy_W_of (tk_2 _ (List.mem_of_getElem? (i := 17) rfl)) rfl
theorem wm_40 : (Cond.initialized RX8) ∈ sy_W := sy_W_of (tk_1 _ (List.mem_of_getElem? (i := 8) rfl)) rfl
theorem wm_41 : (Cond.fieldLink RX11 66 "SkyTurns" "seenRows" "LSkyTurns$SeenRows;") ∈ sy_W := sy_W_of (tk_2 _ (List.mem_of_getElem? (i := 152) rfl)) rfl
theorem wm_42 : (Cond.classLink RX11 70 RX1) ∈ sy_W := sy_W_of (tk_2 _ (List.mem_of_getElem? (i := 46) rfl)) rfl
theorem wm_43 : (Cond.instantiable RX1 6) ∈ sy_W := sy_W_of (tk_2 _ (List.mem_of_getElem? (i := 47) rfl)) rfl
theorem wm_44 : (Cond.initialized RX1) ∈ sy_W := sy_W_of (tk_1 _ (List.mem_of_getElem? (i := 9) rfl)) rfl
theorem wm_45 : (Cond.fieldLink RX11 73 "SkyTurns" "chainTried" "LSkyTurns$Chain;") ∈ sy_W := sy_W_of (tk_2 _ (List.mem_of_getElem? (i := 153) rfl)) rfl
theorem wm_46 : (Cond.classLink RX11 77 RX0) ∈ sy_W := sy_W_of (tk_2 _ (List.mem_of_getElem? (i := 72) rfl)) rfl
theorem wm_47 : (Cond.instantiable RX0 4) ∈ sy_W := sy_W_of (tk_2 _ (List.mem_of_getElem? (i := 73) rfl)) rfl
theorem wm_48 : (Cond.initialized RX0) ∈ sy_W := sy_W_of (tk_1 _ (List.mem_of_getElem? (i := 10) rfl)) rfl
theorem wm_49 : (Cond.fieldLink RX11 80 "SkyTurns" "book" "LSkyTurns$Book;") ∈ sy_W := sy_W_of (tk_2 _ (List.mem_of_getElem? (i := 154) rfl)) rfl
theorem wm_50 : (Cond.classLink RX11 84 RX2) ∈ sy_W := sy_W_of (tk_2 _ (List.mem_of_getElem? (i := 92) rfl)) rfl
theorem wm_51 : (Cond.instantiable RX2 3) ∈ sy_W := sy_W_of (tk_2 _ (List.mem_of_getElem? (i := 93) rfl)) rfl
theorem wm_52 : (Cond.initialized RX2) ∈ sy_W := sy_W_of (tk_1 _ (List.mem_of_getElem? (i := 11) rfl)) rfl
theorem wm_53 : (Cond.fieldLink RX11 87 "SkyTurns" "debts" "LSkyTurns$Debts;") ∈ sy_W := sy_W_of (tk_2 _ (List.mem_of_getElem? (i := 155) rfl)) rfl
theorem wm_54 : (Cond.classLink RX11 91 RX4) ∈ sy_W := sy_W_of (tk_2 _ (List.mem_of_getElem? (i := 108) rfl)) rfl
theorem wm_55 : (Cond.instantiable RX4 8) ∈ sy_W := sy_W_of (tk_2 _ (List.mem_of_getElem? (i := 109) rfl)) rfl
theorem wm_56 : (Cond.initialized RX4) ∈ sy_W := sy_W_of (tk_1 _ (List.mem_of_getElem? (i := 12) rfl)) rfl
theorem wm_57 : (Cond.fieldLink RX11 94 "SkyTurns" "game" "LSkyTurns$Game;") ∈ sy_W := sy_W_of (tk_2 _ (List.mem_of_getElem? (i := 156) rfl)) rfl
theorem wm_58 : (Cond.fieldLink RX11 98 "SkyTurns" "latestFault" "I") ∈ sy_W := sy_W_of (tk_2 _ (List.mem_of_getElem? (i := 157) rfl)) rfl
theorem wm_59 : (Cond.fieldLink RX11 102 "SkyTurns" "seedNow" "I") ∈ sy_W := sy_W_of (tk_2 _ (List.mem_of_getElem? (i := 158) rfl)) rfl
theorem wm_60 : (Cond.methodLink RX11 9 yX3_init) ∈ sy_W := sy_W_of (tk_1 _ (List.mem_of_getElem? (i := 26) rfl)) rfl
theorem wm_61 : (Cond.instanceMethod yX3_init) ∈ sy_W := sy_W_of (tk_1 _ (List.mem_of_getElem? (i := 27) rfl)) rfl
theorem wm_62 : (Cond.code yX3_init cX3_init 1 none) ∈ sy_W := sy_W_of (tk_1 _ (List.mem_of_getElem? (i := 28) rfl)) rfl
theorem wm_63 : (Cond.methodLink RX3 3 objectInit) ∈ sy_W := sy_W_of (tk_1 _ (List.mem_of_getElem? (i := 29) rfl)) rfl
theorem wm_64 : (Cond.fieldLink RX3 9 "SkyTurns$Edge" "weights" "[I") ∈ sy_W := sy_W_of (tk_1 _ (List.mem_of_getElem? (i := 38) rfl)) rfl
theorem wm_65 : (Cond.fieldLink RX3 15 "SkyTurns$Edge" "kind" "[I") ∈ sy_W := sy_W_of (tk_1 _ (List.mem_of_getElem? (i := 39) rfl)) rfl
theorem wm_66 : (Cond.fieldLink RX3 18 "SkyTurns$Edge" "strength" "[I") ∈ sy_W := sy_W_of (tk_1 _ (List.mem_of_getElem? (i := 42) rfl)) rfl
theorem wm_67 : (Cond.fieldLink RX3 21 "SkyTurns$Edge" "height" "[I") ∈ sy_W := sy_W_of (tk_1 _ (List.mem_of_getElem? (i := 45) rfl)) rfl
theorem wm_68 : (Cond.fieldLink RX3 24 "SkyTurns$Edge" "wits" "[I") ∈ sy_W := sy_W_of (tk_1 _ (List.mem_of_getElem? (i := 47) rfl)) rfl
theorem wm_69 : (Cond.fieldLink RX3 27 "SkyTurns$Edge" "father" "[I") ∈ sy_W := sy_W_of (tk_1 _ (List.mem_of_getElem? (i := 50) rfl)) rfl
theorem wm_70 : (Cond.fieldLink RX3 30 "SkyTurns$Edge" "goodness" "[I") ∈ sy_W := sy_W_of (tk_1 _ (List.mem_of_getElem? (i := 53) rfl)) rfl
theorem wm_71 : (Cond.methodLink RX3 33 yX3_clear) ∈ sy_W := sy_W_of (tk_1 _ (List.mem_of_getElem? (i := 30) rfl)) rfl
theorem wm_72 : (Cond.instanceMethod yX3_clear) ∈ sy_W := sy_W_of (tk_1 _ (List.mem_of_getElem? (i := 31) rfl)) rfl
theorem wm_73 : (Cond.selects RX3 yX3_clear yX3_clear) ∈ sy_W := sy_W_of (tk_1 _ (List.mem_of_getElem? (i := 32) rfl)) rfl
theorem wm_74 : (Cond.code yX3_clear cX3_clear 1 none) ∈ sy_W := sy_W_of (tk_1 _ (List.mem_of_getElem? (i := 33) rfl)) rfl
theorem wm_75 : (Cond.fieldLink RX3 36 "SkyTurns$Edge" "weightCount" "I") ∈ sy_W := sy_W_of (tk_1 _ (List.mem_of_getElem? (i := 56) rfl)) rfl
theorem wm_76 : (Cond.fieldLink RX3 40 "SkyTurns$Edge" "people" "I") ∈ sy_W := sy_W_of (tk_1 _ (List.mem_of_getElem? (i := 59) rfl)) rfl
theorem wm_77 : (Cond.fieldLink RX3 47 "SkyTurns$Edge" "firstFruit" "I") ∈ sy_W := sy_W_of (tk_1 _ (List.mem_of_getElem? (i := 66) rfl)) rfl
theorem wm_78 : (Cond.methodLink RX3 43 yX3_setGoodness) ∈ sy_W := sy_W_of (tk_1 _ (List.mem_of_getElem? (i := 34) rfl)) rfl
theorem wm_79 : (Cond.instanceMethod yX3_setGoodness) ∈ sy_W := sy_W_of (tk_1 _ (List.mem_of_getElem? (i := 35) rfl)) rfl
theorem wm_80 : (Cond.selects RX3 yX3_setGoodness yX3_setGoodness) ∈ sy_W := sy_W_of (tk_1 _ (List.mem_of_getElem? (i := 36) rfl)) rfl
theorem wm_81 : (Cond.code yX3_setGoodness cX3_setGoodness 4 none) ∈ sy_W := sy_W_of (tk_1 _ (List.mem_of_getElem? (i := 37) rfl)) rfl
theorem wm_82 : (Cond.methodLink RX11 14 yX10_init) ∈ sy_W := sy_W_of (tk_1 _ (List.mem_of_getElem? (i := 94) rfl)) rfl
theorem wm_83 : (Cond.instanceMethod yX10_init) ∈ sy_W := sy_W_of (tk_1 _ (List.mem_of_getElem? (i := 95) rfl)) rfl
theorem wm_84 : (Cond.code yX10_init cX10_init 2 none) ∈ sy_W := sy_W_of (tk_1 _ (List.mem_of_getElem? (i := 96) rfl)) rfl
theorem wm_85 : (Cond.methodLink RX10 3 objectInit) ∈ sy_W := sy_W_of (tk_1 _ (List.mem_of_getElem? (i := 97) rfl)) rfl
theorem wm_86 : (Cond.fieldLink RX10 9 "SkyTurns$Sky" "tired" "[I") ∈ sy_W := sy_W_of (tk_1 _ (List.mem_of_getElem? (i := 103) rfl)) rfl
theorem wm_87 : (Cond.fieldLink RX10 15 "SkyTurns$Sky" "held" "[I") ∈ sy_W := sy_W_of (tk_1 _ (List.mem_of_getElem? (i := 105) rfl)) rfl
theorem wm_88 : (Cond.fieldLink RX10 18 "SkyTurns$Sky" "unbroken" "[I") ∈ sy_W := sy_W_of (tk_1 _ (List.mem_of_getElem? (i := 108) rfl)) rfl
theorem wm_89 : (Cond.fieldLink RX10 21 "SkyTurns$Sky" "fallen" "[I") ∈ sy_W := sy_W_of (tk_1 _ (List.mem_of_getElem? (i := 110) rfl)) rfl
theorem wm_90 : (Cond.fieldLink RX10 24 "SkyTurns$Sky" "told" "LSkyTurns$Edge;") ∈ sy_W := sy_W_of (tk_1 _ (List.mem_of_getElem? (i := 102) rfl)) rfl
theorem wm_91 : (Cond.methodLink RX10 28 yX10_begin) ∈ sy_W := sy_W_of (tk_1 _ (List.mem_of_getElem? (i := 98) rfl)) rfl
theorem wm_92 : (Cond.instanceMethod yX10_begin) ∈ sy_W := sy_W_of (tk_1 _ (List.mem_of_getElem? (i := 99) rfl)) rfl
theorem wm_93 : (Cond.selects RX10 yX10_begin yX10_begin) ∈ sy_W := sy_W_of (tk_1 _ (List.mem_of_getElem? (i := 100) rfl)) rfl
theorem wm_94 : (Cond.code yX10_begin cX10_begin 2 none) ∈ sy_W := sy_W_of (tk_1 _ (List.mem_of_getElem? (i := 101) rfl)) rfl
theorem wm_95 : (Cond.fieldLink RX10 31 "SkyTurns$Sky" "clock" "I") ∈ sy_W := sy_W_of (tk_1 _ (List.mem_of_getElem? (i := 112) rfl)) rfl
theorem wm_96 : (Cond.fieldLink RX10 35 "SkyTurns$Sky" "low" "I") ∈ sy_W := sy_W_of (tk_1 _ (List.mem_of_getElem? (i := 114) rfl)) rfl
theorem wm_97 : (Cond.fieldLink RX10 38 "SkyTurns$Sky" "harm" "I") ∈ sy_W := sy_W_of (tk_1 _ (List.mem_of_getElem? (i := 116) rfl)) rfl
theorem wm_98 : (Cond.fieldLink RX10 41 "SkyTurns$Edge" "firstFruit" "I") ∈ sy_W := sy_W_of (tk_1 _ (List.mem_of_getElem? (i := 67) rfl)) rfl
theorem wm_99 : (Cond.fieldLink RX10 46 "SkyTurns$Sky" "fruitLeft" "I") ∈ sy_W := sy_W_of (tk_1 _ (List.mem_of_getElem? (i := 118) rfl)) rfl
theorem wm_100 : (Cond.fieldLink RX10 49 "SkyTurns$Edge" "people" "I") ∈ sy_W := sy_W_of (tk_1 _ (List.mem_of_getElem? (i := 62) rfl)) rfl
theorem wm_101 : (Cond.fieldLink RX10 52 "SkyTurns$Sky" "holder" "I") ∈ sy_W := sy_W_of (tk_1 _ (List.mem_of_getElem? (i := 120) rfl)) rfl
theorem wm_102 : (Cond.fieldLink RX10 55 "SkyTurns$Sky" "beside" "I") ∈ sy_W := sy_W_of (tk_1 _ (List.mem_of_getElem? (i := 122) rfl)) rfl
theorem wm_103 : (Cond.instanceMethod yX6_init) ∈ sy_W := sy_W_of (tk_1 _ (List.mem_of_getElem? (i := 150) rfl)) rfl
theorem wm_104 : (Cond.code yX6_init cX6_init 1 none) ∈ sy_W := sy_W_of (tk_1 _ (List.mem_of_getElem? (i := 151) rfl)) rfl
theorem wm_105 : (Cond.methodLink RX6 3 objectInit) ∈ sy_W := sy_W_of (tk_1 _ (List.mem_of_getElem? (i := 152) rfl)) rfl
theorem wm_106 : (Cond.fieldLink RX6 9 "SkyTurns$Reader" "letters" "[I") ∈ sy_W := sy_W_of (tk_1 _ (List.mem_of_getElem? (i := 155) rfl)) rfl
theorem wm_107 : (Cond.classLink RX6 15 RX3) ∈ sy_W := sy_W_of (tk_1 _ (List.mem_of_getElem? (i := 153) rfl)) rfl
theorem wm_108 : (Cond.fieldLink RX6 18 "SkyTurns$Reader" "draft" "LSkyTurns$Edge;") ∈ sy_W := sy_W_of (tk_1 _ (List.mem_of_getElem? (i := 156) rfl)) rfl
theorem wm_109 : (Cond.fieldLink RX6 22 "SkyTurns$Reader" "faultAt" "I") ∈ sy_W := sy_W_of (tk_1 _ (List.mem_of_getElem? (i := 162) rfl)) rfl
theorem wm_110 : (Cond.methodLink RX6 17 yX3_init) ∈ sy_W := sy_W_of (tk_1 _ (List.mem_of_getElem? (i := 154) rfl)) rfl
theorem wm_111 : (Cond.methodLink RX11 37 yX5_init) ∈ sy_W := sy_W_of (tk_1 _ (List.mem_of_getElem? (i := 189) rfl)) rfl
theorem wm_112 : (Cond.instanceMethod yX5_init) ∈ sy_W := sy_W_of (tk_1 _ (List.mem_of_getElem? (i := 190) rfl)) rfl
theorem wm_113 : (Cond.code yX5_init cX5_init 3 none) ∈ sy_W := sy_W_of (tk_1 _ (List.mem_of_getElem? (i := 191) rfl)) rfl
theorem wm_114 : (Cond.methodLink RX5 3 objectInit) ∈ sy_W := sy_W_of (tk_1 _ (List.mem_of_getElem? (i := 192) rfl)) rfl
theorem wm_115 : (Cond.classLink RX5 9 RX10) ∈ sy_W := sy_W_of (tk_1 _ (List.mem_of_getElem? (i := 193) rfl)) rfl
theorem wm_116 : (Cond.fieldLink RX5 11 "SkyTurns$Past" "skies" "[LSkyTurns$Sky;") ∈ sy_W := sy_W_of (tk_1 _ (List.mem_of_getElem? (i := 195) rfl)) rfl
theorem wm_117 : (Cond.methodLink RX5 17 yX10_init) ∈ sy_W := sy_W_of (tk_1 _ (List.mem_of_getElem? (i := 194) rfl)) rfl
theorem wm_118 : (Cond.methodLink RX11 56 yX9_init) ∈ sy_W := sy_W_of (tk_1 _ (List.mem_of_getElem? (i := 208) rfl)) rfl
theorem wm_119 : (Cond.instanceMethod yX9_init) ∈ sy_W := sy_W_of (tk_1 _ (List.mem_of_getElem? (i := 209) rfl)) rfl
theorem wm_120 : (Cond.code yX9_init cX9_init 3 none) ∈ sy_W := sy_W_of (tk_1 _ (List.mem_of_getElem? (i := 210) rfl)) rfl
theorem wm_121 : (Cond.fieldLink RX9 9 "SkyTurns$ShiftRows" "bestRow" "[I") ∈ sy_W := sy_W_of (tk_1 _ (List.mem_of_getElem? (i := 215) rfl)) rfl
theorem wm_122 : (Cond.methodLink RX9 3 yX7_init) ∈ sy_W := sy_W_of (tk_1 _ (List.mem_of_getElem? (i := 211) rfl)) rfl
theorem wm_123 : (Cond.instanceMethod yX7_init) ∈ sy_W := sy_W_of (tk_1 _ (List.mem_of_getElem? (i := 212) rfl)) rfl
theorem wm_124 : (Cond.initialized RX7) ∈ sy_W := sy_W_of (tk_1 _ (List.mem_of_getElem? (i := 6) rfl)) rfl
theorem wm_125 : (Cond.code yX7_init cX7_init 3 none) ∈ sy_W := sy_W_of (tk_1 _ (List.mem_of_getElem? (i := 213) rfl)) rfl
theorem wm_126 : (Cond.methodLink RX7 3 objectInit) ∈ sy_W := sy_W_of (tk_1 _ (List.mem_of_getElem? (i := 214) rfl)) rfl
theorem wm_127 : (Cond.fieldLink RX7 9 "SkyTurns$Rows" "row" "[I") ∈ sy_W := sy_W_of (tk_1 _ (List.mem_of_getElem? (i := 221) rfl)) rfl
theorem wm_128 : (Cond.fieldLink RX7 15 "SkyTurns$Rows" "hoursOf" "[I") ∈ sy_W := sy_W_of (tk_1 _ (List.mem_of_getElem? (i := 226) rfl)) rfl
theorem wm_129 : (Cond.fieldLink RX7 18 "SkyTurns$Rows" "told" "LSkyTurns$Edge;") ∈ sy_W := sy_W_of (tk_1 _ (List.mem_of_getElem? (i := 219) rfl)) rfl
theorem wm_130 : (Cond.fieldLink RX7 22 "SkyTurns$Rows" "levels" "[LSkyTurns$Sky;") ∈ sy_W := sy_W_of (tk_1 _ (List.mem_of_getElem? (i := 220) rfl)) rfl
theorem wm_131 : (Cond.methodLink RX11 65 yX8_init) ∈ sy_W := sy_W_of (tk_2 _ (List.mem_of_getElem? (i := 18) rfl)) rfl
theorem wm_132 : (Cond.instanceMethod yX8_init) ∈ sy_W := sy_W_of (tk_2 _ (List.mem_of_getElem? (i := 19) rfl)) rfl
theorem wm_133 : (Cond.code yX8_init cX8_init 3 none) ∈ sy_W := sy_W_of (tk_2 _ (List.mem_of_getElem? (i := 20) rfl)) rfl
theorem wm_134 : (Cond.fieldLink RX8 9 "SkyTurns$SeenRows" "seen" "[I") ∈ sy_W := sy_W_of (tk_2 _ (List.mem_of_getElem? (i := 22) rfl)) rfl
theorem wm_135 : (Cond.fieldLink RX8 15 "SkyTurns$SeenRows" "firstRow" "[I") ∈ sy_W := sy_W_of (tk_2 _ (List.mem_of_getElem? (i := 23) rfl)) rfl
theorem wm_136 : (Cond.methodLink RX8 3 yX7_init) ∈ sy_W := sy_W_of (tk_2 _ (List.mem_of_getElem? (i := 21) rfl)) rfl
theorem wm_137 : (Cond.methodLink RX11 72 yX1_init) ∈ sy_W := sy_W_of (tk_2 _ (List.mem_of_getElem? (i := 48) rfl)) rfl
theorem wm_138 : (Cond.instanceMethod yX1_init) ∈ sy_W := sy_W_of (tk_2 _ (List.mem_of_getElem? (i := 49) rfl)) rfl
theorem wm_139 : (Cond.code yX1_init cX1_init 2 none) ∈ sy_W := sy_W_of (tk_2 _ (List.mem_of_getElem? (i := 50) rfl)) rfl
theorem wm_140 : (Cond.methodLink RX1 3 objectInit) ∈ sy_W := sy_W_of (tk_2 _ (List.mem_of_getElem? (i := 51) rfl)) rfl
theorem wm_141 : (Cond.fieldLink RX1 9 "SkyTurns$Chain" "falls" "[Z") ∈ sy_W := sy_W_of (tk_2 _ (List.mem_of_getElem? (i := 53) rfl)) rfl
theorem wm_142 : (Cond.fieldLink RX1 15 "SkyTurns$Chain" "starts" "[Z") ∈ sy_W := sy_W_of (tk_2 _ (List.mem_of_getElem? (i := 54) rfl)) rfl
theorem wm_143 : (Cond.fieldLink RX1 18 "SkyTurns$Chain" "stepsLeft" "[I") ∈ sy_W := sy_W_of (tk_2 _ (List.mem_of_getElem? (i := 55) rfl)) rfl
theorem wm_144 : (Cond.fieldLink RX1 22 "SkyTurns$Chain" "way" "[I") ∈ sy_W := sy_W_of (tk_2 _ (List.mem_of_getElem? (i := 56) rfl)) rfl
theorem wm_145 : (Cond.fieldLink RX1 25 "SkyTurns$Chain" "told" "LSkyTurns$Edge;") ∈ sy_W := sy_W_of (tk_2 _ (List.mem_of_getElem? (i := 52) rfl)) rfl
theorem wm_146 : (Cond.instanceMethod yX0_init) ∈ sy_W := sy_W_of (tk_2 _ (List.mem_of_getElem? (i := 75) rfl)) rfl
theorem wm_147 : (Cond.code yX0_init cX0_init 1 none) ∈ sy_W := sy_W_of (tk_2 _ (List.mem_of_getElem? (i := 76) rfl)) rfl
theorem wm_148 : (Cond.methodLink RX0 3 objectInit) ∈ sy_W := sy_W_of (tk_2 _ (List.mem_of_getElem? (i := 77) rfl)) rfl
theorem wm_149 : (Cond.fieldLink RX0 9 "SkyTurns$Book" "persons" "[I") ∈ sy_W := sy_W_of (tk_2 _ (List.mem_of_getElem? (i := 78) rfl)) rfl
theorem wm_150 : (Cond.fieldLink RX0 15 "SkyTurns$Book" "wordsTold" "[I") ∈ sy_W := sy_W_of (tk_2 _ (List.mem_of_getElem? (i := 79) rfl)) rfl
theorem wm_151 : (Cond.fieldLink RX0 18 "SkyTurns$Book" "taken" "[Z") ∈ sy_W := sy_W_of (tk_2 _ (List.mem_of_getElem? (i := 80) rfl)) rfl
theorem wm_152 : (Cond.methodLink RX11 86 yX2_init) ∈ sy_W := sy_W_of (tk_2 _ (List.mem_of_getElem? (i := 94) rfl)) rfl
theorem wm_153 : (Cond.instanceMethod yX2_init) ∈ sy_W := sy_W_of (tk_2 _ (List.mem_of_getElem? (i := 95) rfl)) rfl
theorem wm_154 : (Cond.code yX2_init cX2_init 2 none) ∈ sy_W := sy_W_of (tk_2 _ (List.mem_of_getElem? (i := 96) rfl)) rfl
theorem wm_155 : (Cond.methodLink RX2 3 objectInit) ∈ sy_W := sy_W_of (tk_2 _ (List.mem_of_getElem? (i := 97) rfl)) rfl
theorem wm_156 : (Cond.fieldLink RX2 11 "SkyTurns$Debts" "sums" "[I") ∈ sy_W := sy_W_of (tk_2 _ (List.mem_of_getElem? (i := 99) rfl)) rfl
theorem wm_157 : (Cond.fieldLink RX2 15 "SkyTurns$Debts" "groups" "[I") ∈ sy_W := sy_W_of (tk_2 _ (List.mem_of_getElem? (i := 100) rfl)) rfl
theorem wm_158 : (Cond.fieldLink RX2 18 "SkyTurns$Debts" "told" "LSkyTurns$Edge;") ∈ sy_W := sy_W_of (tk_2 _ (List.mem_of_getElem? (i := 98) rfl)) rfl
theorem wm_159 : (Cond.instanceMethod yX4_init) ∈ sy_W := sy_W_of (tk_2 _ (List.mem_of_getElem? (i := 111) rfl)) rfl
theorem wm_160 : (Cond.code yX4_init cX4_init 1 none) ∈ sy_W := sy_W_of (tk_2 _ (List.mem_of_getElem? (i := 112) rfl)) rfl
theorem wm_161 : (Cond.methodLink RX4 1 objectInit) ∈ sy_W := sy_W_of (tk_2 _ (List.mem_of_getElem? (i := 113) rfl)) rfl
theorem wm_162 : (Cond.methodLink RL 12 yX12_init) ∈ sy_W := sy_W_of (tk_4 _ (List.mem_of_getElem? (i := 226) rfl)) rfl
theorem wm_163 : (Cond.instanceMethod yX12_init) ∈ sy_W := sy_W_of (tk_4 _ (List.mem_of_getElem? (i := 227) rfl)) rfl
theorem wm_164 : (Cond.code yX12_init cX12_init 1 none) ∈ sy_W := sy_W_of (tk_4 _ (List.mem_of_getElem? (i := 228) rfl)) rfl
theorem wm_165 : (Cond.methodLink RX12 1 objectInit) ∈ sy_W := sy_W_of (tk_4 _ (List.mem_of_getElem? (i := 229) rfl)) rfl
theorem wm_166 : (Cond.fieldLink RX12 7 "SkyTurnsModel" "text" "[I") ∈ sy_W := sy_W_of (tk_4 _ (List.mem_of_getElem? (i := 235) rfl)) rfl
theorem wm_167 : (Cond.fieldLink RX12 13 "SkyTurnsModel" "faultAt" "I") ∈ sy_W := sy_W_of (tk_5 _ (List.mem_of_getElem? (i := 0) rfl)) rfl
theorem wm_168 : (Cond.fieldLink RX12 17 "SkyTurnsModel" "readWeight" "[I") ∈ sy_W := sy_W_of (tk_5 _ (List.mem_of_getElem? (i := 3) rfl)) rfl
theorem wm_169 : (Cond.fieldLink RX12 20 "SkyTurnsModel" "read" "[I") ∈ sy_W := sy_W_of (tk_5 _ (List.mem_of_getElem? (i := 5) rfl)) rfl
theorem wm_170 : (Cond.fieldLink RX12 23 "SkyTurnsModel" "readWord" "[I") ∈ sy_W := sy_W_of (tk_5 _ (List.mem_of_getElem? (i := 6) rfl)) rfl
theorem wm_171 : (Cond.fieldLink RX12 26 "SkyTurnsModel" "weight" "[I") ∈ sy_W := sy_W_of (tk_5 _ (List.mem_of_getElem? (i := 12) rfl)) rfl
theorem wm_172 : (Cond.fieldLink RX12 29 "SkyTurnsModel" "person" "[I") ∈ sy_W := sy_W_of (tk_5 _ (List.mem_of_getElem? (i := 14) rfl)) rfl
theorem wm_173 : (Cond.fieldLink RX12 32 "SkyTurnsModel" "word" "[I") ∈ sy_W := sy_W_of (tk_5 _ (List.mem_of_getElem? (i := 15) rfl)) rfl
theorem wm_174 : (Cond.fieldLink RX12 35 "SkyTurnsModel" "now" "[I") ∈ sy_W := sy_W_of (tk_5 _ (List.mem_of_getElem? (i := 16) rfl)) rfl
theorem wm_175 : (Cond.fieldLink RX12 38 "SkyTurnsModel" "tried" "[I") ∈ sy_W := sy_W_of (tk_5 _ (List.mem_of_getElem? (i := 17) rfl)) rfl
theorem wm_176 : (Cond.fieldLink RX12 41 "SkyTurnsModel" "image" "[I") ∈ sy_W := sy_W_of (tk_5 _ (List.mem_of_getElem? (i := 18) rfl)) rfl
theorem wm_177 : (Cond.fieldLink RX12 44 "SkyTurnsModel" "isKept" "[Z") ∈ sy_W := sy_W_of (tk_5 _ (List.mem_of_getElem? (i := 19) rfl)) rfl
theorem wm_178 : (Cond.fieldLink RX12 48 "SkyTurnsModel" "backOf" "[I") ∈ sy_W := sy_W_of (tk_5 _ (List.mem_of_getElem? (i := 21) rfl)) rfl
theorem wm_179 : (Cond.fieldLink RX12 51 "SkyTurnsModel" "sight" "[I") ∈ sy_W := sy_W_of (tk_5 _ (List.mem_of_getElem? (i := 23) rfl)) rfl
theorem wm_180 : (Cond.fieldLink RX12 54 "SkyTurnsModel" "line" "[I") ∈ sy_W := sy_W_of (tk_5 _ (List.mem_of_getElem? (i := 25) rfl)) rfl
theorem wm_181 : (Cond.fieldLink RX12 57 "SkyTurnsModel" "row" "[I") ∈ sy_W := sy_W_of (tk_5 _ (List.mem_of_getElem? (i := 26) rfl)) rfl
theorem wm_182 : (Cond.fieldLink RX12 60 "SkyTurnsModel" "found" "[I") ∈ sy_W := sy_W_of (tk_5 _ (List.mem_of_getElem? (i := 27) rfl)) rfl
theorem wm_183 : (Cond.fieldLink RX12 63 "SkyTurnsModel" "sums" "[I") ∈ sy_W := sy_W_of (tk_5 _ (List.mem_of_getElem? (i := 28) rfl)) rfl
theorem wm_184 : (Cond.methodLink RX12 66 yX12_begin) ∈ sy_W := sy_W_of (tk_4 _ (List.mem_of_getElem? (i := 230) rfl)) rfl
theorem wm_185 : (Cond.instanceMethod yX12_begin) ∈ sy_W := sy_W_of (tk_4 _ (List.mem_of_getElem? (i := 232) rfl)) rfl
theorem wm_186 : (Cond.selects RX12 yX12_begin yX12_begin) ∈ sy_W := sy_W_of (tp_2 (yX12_begin, 35) (List.mem_of_getElem? (i := 12) rfl)) rfl
theorem wm_187 : (Cond.code yX12_begin cX12_begin 2 none) ∈ sy_W := sy_W_of (tk_4 _ (List.mem_of_getElem? (i := 233) rfl)) rfl
theorem wm_188 : (Cond.fieldLink RX12 69 "SkyTurnsModel" "many" "I") ∈ sy_W := sy_W_of (tk_5 _ (List.mem_of_getElem? (i := 13) rfl)) rfl
theorem wm_189 : (Cond.fieldLink RX12 76 "SkyTurnsModel" "backs" "I") ∈ sy_W := sy_W_of (tk_5 _ (List.mem_of_getElem? (i := 20) rfl)) rfl
theorem wm_190 : (Cond.fieldLink RX12 79 "SkyTurnsModel" "sights" "I") ∈ sy_W := sy_W_of (tk_5 _ (List.mem_of_getElem? (i := 22) rfl)) rfl
theorem wm_191 : (Cond.fieldLink RX12 82 "SkyTurnsModel" "lines" "I") ∈ sy_W := sy_W_of (tk_5 _ (List.mem_of_getElem? (i := 24) rfl)) rfl
theorem wm_192 : (Cond.methodLink RL 13 yX11_feed) ∈ sy_W := sy_W_of (tk_2 _ (List.mem_of_getElem? (i := 192) rfl)) rfl
theorem wm_193 : (Cond.instanceMethod yX11_feed) ∈ sy_W := sy_W_of (tk_2 _ (List.mem_of_getElem? (i := 193) rfl)) rfl
theorem wm_194 : (Cond.selects RX11 yX11_feed yX11_feed) ∈ sy_W := sy_W_of (tk_2 _ (List.mem_of_getElem? (i := 194) rfl)) rfl
theorem wm_195 : (Cond.code yX11_feed cX11_feed 2 (some .int)) ∈ sy_W := sy_W_of (tk_2 _ (List.mem_of_getElem? (i := 195) rfl)) rfl
theorem wm_196 : (Cond.constant RX11 105 (-1000000002)) ∈ sy_W := sy_W_of (tk_2 _ (List.mem_of_getElem? (i := 196) rfl)) rfl
theorem wm_197 : (Cond.fieldLink RX11 106 "SkyTurns$Reader" "length" "I") ∈ sy_W := sy_W_of (tk_1 _ (List.mem_of_getElem? (i := 159) rfl)) rfl
theorem wm_198 : (Cond.constant RX11 109 (-1000000004)) ∈ sy_W := sy_W_of (tk_2 _ (List.mem_of_getElem? (i := 197) rfl)) rfl
theorem wm_199 : (Cond.methodLink RX11 110 yX6_add) ∈ sy_W := sy_W_of (tk_2 _ (List.mem_of_getElem? (i := 198) rfl)) rfl
theorem wm_200 : (Cond.instanceMethod yX6_add) ∈ sy_W := sy_W_of (tk_2 _ (List.mem_of_getElem? (i := 199) rfl)) rfl
theorem wm_201 : (Cond.selects RX6 yX6_add yX6_add) ∈ sy_W := sy_W_of (tk_2 _ (List.mem_of_getElem? (i := 200) rfl)) rfl
theorem wm_202 : (Cond.code yX6_add cX6_add 2 (some .int)) ∈ sy_W := sy_W_of (tk_2 _ (List.mem_of_getElem? (i := 201) rfl)) rfl
theorem wm_203 : (Cond.fieldLink RX6 26 "SkyTurns$Reader" "length" "I") ∈ sy_W := sy_W_of (tk_1 _ (List.mem_of_getElem? (i := 158) rfl)) rfl
theorem wm_204 : (Cond.methodLink RL 17 yX12_feed) ∈ sy_W := sy_W_of (tk_5 _ (List.mem_of_getElem? (i := 100) rfl)) rfl
theorem wm_205 : (Cond.instanceMethod yX12_feed) ∈ sy_W := sy_W_of (tk_5 _ (List.mem_of_getElem? (i := 101) rfl)) rfl
theorem wm_206 : (Cond.selects RX12 yX12_feed yX12_feed) ∈ sy_W := sy_W_of (tk_5 _ (List.mem_of_getElem? (i := 102) rfl)) rfl
theorem wm_207 : (Cond.code yX12_feed cX12_feed 2 (some .int)) ∈ sy_W := sy_W_of (tk_5 _ (List.mem_of_getElem? (i := 103) rfl)) rfl
theorem wm_208 : (Cond.constant RX12 85 (-1000000002)) ∈ sy_W := sy_W_of (tk_5 _ (List.mem_of_getElem? (i := 107) rfl)) rfl
theorem wm_209 : (Cond.fieldLink RX12 86 "SkyTurnsModel" "letters" "I") ∈ sy_W := sy_W_of (tk_4 _ (List.mem_of_getElem? (i := 234) rfl)) rfl
theorem wm_210 : (Cond.constant RX12 89 (-1000000004)) ∈ sy_W := sy_W_of (tk_5 _ (List.mem_of_getElem? (i := 108) rfl)) rfl
theorem wm_211 : (Cond.methodLink RX12 72 yX12_in) ∈ sy_W := sy_W_of (tk_5 _ (List.mem_of_getElem? (i := 104) rfl)) rfl
theorem wm_212 : (Cond.static yX12_in) ∈ sy_W := sy_W_of (tk_5 _ (List.mem_of_getElem? (i := 105) rfl)) rfl
theorem wm_213 : (Cond.code yX12_in cX12_in 3 (some .boolean)) ∈ sy_W := sy_W_of (tk_5 _ (List.mem_of_getElem? (i := 106) rfl)) rfl
theorem wm_214 : (Cond.methodLink RL 18 yX11_edge) ∈ sy_W := sy_W_of (tk_2 _ (List.mem_of_getElem? (i := 202) rfl)) rfl
theorem wm_215 : (Cond.instanceMethod yX11_edge) ∈ sy_W := sy_W_of (tk_2 _ (List.mem_of_getElem? (i := 203) rfl)) rfl
theorem wm_216 : (Cond.selects RX11 yX11_edge yX11_edge) ∈ sy_W := sy_W_of (tk_2 _ (List.mem_of_getElem? (i := 204) rfl)) rfl
theorem wm_217 : (Cond.code yX11_edge cX11_edge 2 (some .int)) ∈ sy_W := sy_W_of (tk_2 _ (List.mem_of_getElem? (i := 205) rfl)) rfl
theorem wm_218 : (Cond.fieldLink RX11 117 "SkyTurns$Reader" "faultAt" "I") ∈ sy_W := sy_W_of (tk_1 _ (List.mem_of_getElem? (i := 163) rfl)) rfl
theorem wm_219 : (Cond.fieldLink RX11 120 "SkyTurns$Reader" "faultKind" "I") ∈ sy_W := sy_W_of (tk_1 _ (List.mem_of_getElem? (i := 161) rfl)) rfl
theorem wm_220 : (Cond.fieldLink RX11 123 "SkyTurns$Reader" "draft" "LSkyTurns$Edge;") ∈ sy_W := sy_W_of (tk_1 _ (List.mem_of_getElem? (i := 157) rfl)) rfl
theorem wm_221 : (Cond.fieldLink RX11 139 "SkyTurns$Edge" "people" "I") ∈ sy_W := sy_W_of (tk_1 _ (List.mem_of_getElem? (i := 63) rfl)) rfl
theorem wm_222 : (Cond.methodLink RX11 114 yX6_readText) ∈ sy_W := sy_W_of (tk_2 _ (List.mem_of_getElem? (i := 206) rfl)) rfl
theorem wm_223 : (Cond.instanceMethod yX6_readText) ∈ sy_W := sy_W_of (tk_2 _ (List.mem_of_getElem? (i := 207) rfl)) rfl
theorem wm_224 : (Cond.selects RX6 yX6_readText yX6_readText) ∈ sy_W := sy_W_of (tk_2 _ (List.mem_of_getElem? (i := 208) rfl)) rfl
theorem wm_225 : (Cond.code yX6_readText cX6_readText 2 none) ∈ sy_W := sy_W_of (tk_2 _ (List.mem_of_getElem? (i := 209) rfl)) rfl
theorem wm_226 : (Cond.fieldLink RX6 32 "SkyTurns$Reader" "faultKind" "I") ∈ sy_W := sy_W_of (tk_1 _ (List.mem_of_getElem? (i := 160) rfl)) rfl
theorem wm_227 : (Cond.fieldLink RX6 35 "SkyTurns$Reader" "at" "I") ∈ sy_W := sy_W_of (tk_1 _ (List.mem_of_getElem? (i := 164) rfl)) rfl
theorem wm_228 : (Cond.fieldLink RX6 38 "SkyTurns$Reader" "goodnessTold" "Z") ∈ sy_W := sy_W_of (tk_1 _ (List.mem_of_getElem? (i := 166) rfl)) rfl
theorem wm_229 : (Cond.fieldLink RX6 42 "SkyTurns$Reader" "fruitTold" "Z") ∈ sy_W := sy_W_of (tk_1 _ (List.mem_of_getElem? (i := 167) rfl)) rfl
theorem wm_230 : (Cond.methodLink RX6 29 yX3_clear) ∈ sy_W := sy_W_of (tk_2 _ (List.mem_of_getElem? (i := 210) rfl)) rfl
theorem wm_231 : (Cond.methodLink RX6 45 yX6_hasMore) ∈ sy_W := sy_W_of (tk_2 _ (List.mem_of_getElem? (i := 211) rfl)) rfl
theorem wm_232 : (Cond.instanceMethod yX6_hasMore) ∈ sy_W := sy_W_of (tk_2 _ (List.mem_of_getElem? (i := 213) rfl)) rfl
theorem wm_233 : (Cond.selects RX6 yX6_hasMore yX6_hasMore) ∈ sy_W := sy_W_of (tp_1 (yX6_hasMore, 9) (List.mem_of_getElem? (i := 0) rfl)) rfl
theorem wm_234 : (Cond.code yX6_hasMore cX6_hasMore 1 (some .boolean)) ∈ sy_W := sy_W_of (tk_2 _ (List.mem_of_getElem? (i := 214) rfl)) rfl
theorem wm_235 : (Cond.methodLink RX6 52 yX6_skipBlanks) ∈ sy_W := sy_W_of (tk_2 _ (List.mem_of_getElem? (i := 215) rfl)) rfl
theorem wm_236 : (Cond.instanceMethod yX6_skipBlanks) ∈ sy_W := sy_W_of (tk_2 _ (List.mem_of_getElem? (i := 217) rfl)) rfl
theorem wm_237 : (Cond.selects RX6 yX6_skipBlanks yX6_skipBlanks) ∈ sy_W := sy_W_of (tp_1 (yX6_skipBlanks, 9) (List.mem_of_getElem? (i := 1) rfl)) rfl
theorem wm_238 : (Cond.code yX6_skipBlanks cX6_skipBlanks 1 none) ∈ sy_W := sy_W_of (tk_2 _ (List.mem_of_getElem? (i := 218) rfl)) rfl
theorem wm_239 : (Cond.methodLink RX6 49 yX6_readClause) ∈ sy_W := sy_W_of (tk_2 _ (List.mem_of_getElem? (i := 219) rfl)) rfl
theorem wm_240 : (Cond.instanceMethod yX6_readClause) ∈ sy_W := sy_W_of (tk_2 _ (List.mem_of_getElem? (i := 221) rfl)) rfl
theorem wm_241 : (Cond.selects RX6 yX6_readClause yX6_readClause) ∈ sy_W := sy_W_of (tp_1 (yX6_readClause, 9) (List.mem_of_getElem? (i := 2) rfl)) rfl
theorem wm_242 : (Cond.code yX6_readClause cX6_readClause 2 none) ∈ sy_W := sy_W_of (tk_2 _ (List.mem_of_getElem? (i := 222) rfl)) rfl
theorem wm_243 : (Cond.fieldLink RX6 58 "SkyTurns$Edge" "weightCount" "I") ∈ sy_W := sy_W_of (tk_1 _ (List.mem_of_getElem? (i := 57) rfl)) rfl
theorem wm_244 : (Cond.methodLink RX6 55 yX6_readWeights) ∈ sy_W := sy_W_of (tk_2 _ (List.mem_of_getElem? (i := 223) rfl)) rfl
theorem wm_245 : (Cond.instanceMethod yX6_readWeights) ∈ sy_W := sy_W_of (tk_2 _ (List.mem_of_getElem? (i := 225) rfl)) rfl
theorem wm_246 : (Cond.selects RX6 yX6_readWeights yX6_readWeights) ∈ sy_W := sy_W_of (tp_1 (yX6_readWeights, 9) (List.mem_of_getElem? (i := 3) rfl)) rfl
theorem wm_247 : (Cond.code yX6_readWeights cX6_readWeights 4 none) ∈ sy_W := sy_W_of (tk_2 _ (List.mem_of_getElem? (i := 226) rfl)) rfl
theorem wm_248 : (Cond.methodLink RX6 61 yX6_fail) ∈ sy_W := sy_W_of (tk_2 _ (List.mem_of_getElem? (i := 227) rfl)) rfl
theorem wm_249 : (Cond.instanceMethod yX6_fail) ∈ sy_W := sy_W_of (tk_2 _ (List.mem_of_getElem? (i := 229) rfl)) rfl
theorem wm_250 : (Cond.selects RX6 yX6_fail yX6_fail) ∈ sy_W := sy_W_of (tp_1 (yX6_fail, 9) (List.mem_of_getElem? (i := 4) rfl)) rfl
theorem wm_251 : (Cond.code yX6_fail cX6_fail 3 none) ∈ sy_W := sy_W_of (tk_2 _ (List.mem_of_getElem? (i := 230) rfl)) rfl
theorem wm_252 : (Cond.methodLink RX6 74 yX6_readNumber) ∈ sy_W := sy_W_of (tk_2 _ (List.mem_of_getElem? (i := 231) rfl)) rfl
theorem wm_253 : (Cond.instanceMethod yX6_readNumber) ∈ sy_W := sy_W_of (tk_2 _ (List.mem_of_getElem? (i := 233) rfl)) rfl
theorem wm_254 : (Cond.selects RX6 yX6_readNumber yX6_readNumber) ∈ sy_W := sy_W_of (tp_1 (yX6_readNumber, 9) (List.mem_of_getElem? (i := 5) rfl)) rfl
theorem wm_255 : (Cond.code yX6_readNumber cX6_readNumber 5 (some .int)) ∈ sy_W := sy_W_of (tk_2 _ (List.mem_of_getElem? (i := 234) rfl)) rfl
theorem wm_256 : (Cond.fieldLink RX6 103 "SkyTurns$Reader" "numberAt" "I") ∈ sy_W := sy_W_of (tk_1 _ (List.mem_of_getElem? (i := 165) rfl)) rfl
theorem wm_257 : (Cond.methodLink RX6 113 yX6_isFigure) ∈ sy_W := sy_W_of (tk_2 _ (List.mem_of_getElem? (i := 235) rfl)) rfl
theorem wm_258 : (Cond.static yX6_isFigure) ∈ sy_W := sy_W_of (tk_2 _ (List.mem_of_getElem? (i := 236) rfl)) rfl
theorem wm_259 : (Cond.code yX6_isFigure cX6_isFigure 1 (some .boolean)) ∈ sy_W := sy_W_of (tk_2 _ (List.mem_of_getElem? (i := 237) rfl)) rfl
theorem wm_260 : (Cond.methodLink RX6 78 yX3_addWeight) ∈ sy_W := sy_W_of (tk_2 _ (List.mem_of_getElem? (i := 238) rfl)) rfl
theorem wm_261 : (Cond.instanceMethod yX3_addWeight) ∈ sy_W := sy_W_of (tk_2 _ (List.mem_of_getElem? (i := 239) rfl)) rfl
theorem wm_262 : (Cond.selects RX3 yX3_addWeight yX3_addWeight) ∈ sy_W := sy_W_of (tk_3 _ (List.mem_of_getElem? (i := 0) rfl)) rfl
theorem wm_263 : (Cond.code yX3_addWeight cX3_addWeight 2 none) ∈ sy_W := sy_W_of (tk_3 _ (List.mem_of_getElem? (i := 1) rfl)) rfl
theorem wm_264 : (Cond.methodLink RX6 82 yX6_isNext) ∈ sy_W := sy_W_of (tk_3 _ (List.mem_of_getElem? (i := 2) rfl)) rfl
theorem wm_265 : (Cond.instanceMethod yX6_isNext) ∈ sy_W := sy_W_of (tk_3 _ (List.mem_of_getElem? (i := 4) rfl)) rfl
theorem wm_266 : (Cond.selects RX6 yX6_isNext yX6_isNext) ∈ sy_W := sy_W_of (tp_1 (yX6_isNext, 9) (List.mem_of_getElem? (i := 6) rfl)) rfl
theorem wm_267 : (Cond.code yX6_isNext cX6_isNext 2 (some .boolean)) ∈ sy_W := sy_W_of (tk_3 _ (List.mem_of_getElem? (i := 5) rfl)) rfl
theorem wm_268 : (Cond.methodLink RX6 86 yX6_readEnd) ∈ sy_W := sy_W_of (tk_3 _ (List.mem_of_getElem? (i := 6) rfl)) rfl
theorem wm_269 : (Cond.instanceMethod yX6_readEnd) ∈ sy_W := sy_W_of (tk_3 _ (List.mem_of_getElem? (i := 8) rfl)) rfl
theorem wm_270 : (Cond.selects RX6 yX6_readEnd yX6_readEnd) ∈ sy_W := sy_W_of (tp_1 (yX6_readEnd, 9) (List.mem_of_getElem? (i := 7) rfl)) rfl
theorem wm_271 : (Cond.code yX6_readEnd cX6_readEnd 1 none) ∈ sy_W := sy_W_of (tk_3 _ (List.mem_of_getElem? (i := 9) rfl)) rfl
theorem wm_272 : (Cond.methodLink RX6 65 yX6_readPerson) ∈ sy_W := sy_W_of (tk_3 _ (List.mem_of_getElem? (i := 10) rfl)) rfl
theorem wm_273 : (Cond.instanceMethod yX6_readPerson) ∈ sy_W := sy_W_of (tk_3 _ (List.mem_of_getElem? (i := 12) rfl)) rfl
theorem wm_274 : (Cond.selects RX6 yX6_readPerson yX6_readPerson) ∈ sy_W := sy_W_of (tp_1 (yX6_readPerson, 9) (List.mem_of_getElem? (i := 8) rfl)) rfl
theorem wm_275 : (Cond.code yX6_readPerson cX6_readPerson 6 none) ∈ sy_W := sy_W_of (tk_3 _ (List.mem_of_getElem? (i := 13) rfl)) rfl
theorem wm_276 : (Cond.fieldLink RX6 89 "SkyTurns$Edge" "people" "I") ∈ sy_W := sy_W_of (tk_1 _ (List.mem_of_getElem? (i := 65) rfl)) rfl
theorem wm_277 : (Cond.methodLink RX6 92 yX6_readFather) ∈ sy_W := sy_W_of (tk_3 _ (List.mem_of_getElem? (i := 14) rfl)) rfl
theorem wm_278 : (Cond.instanceMethod yX6_readFather) ∈ sy_W := sy_W_of (tk_3 _ (List.mem_of_getElem? (i := 16) rfl)) rfl
theorem wm_279 : (Cond.selects RX6 yX6_readFather yX6_readFather) ∈ sy_W := sy_W_of (tp_1 (yX6_readFather, 9) (List.mem_of_getElem? (i := 9) rfl)) rfl
theorem wm_280 : (Cond.code yX6_readFather cX6_readFather 2 (some .int)) ∈ sy_W := sy_W_of (tk_3 _ (List.mem_of_getElem? (i := 17) rfl)) rfl
theorem wm_281 : (Cond.methodLink RX6 100 yX3_isPerson) ∈ sy_W := sy_W_of (tk_3 _ (List.mem_of_getElem? (i := 18) rfl)) rfl
theorem wm_282 : (Cond.instanceMethod yX3_isPerson) ∈ sy_W := sy_W_of (tk_3 _ (List.mem_of_getElem? (i := 19) rfl)) rfl
theorem wm_283 : (Cond.selects RX3 yX3_isPerson yX3_isPerson) ∈ sy_W := sy_W_of (tk_3 _ (List.mem_of_getElem? (i := 20) rfl)) rfl
theorem wm_284 : (Cond.code yX3_isPerson cX3_isPerson 2 (some .boolean)) ∈ sy_W := sy_W_of (tk_3 _ (List.mem_of_getElem? (i := 21) rfl)) rfl
theorem wm_285 : (Cond.methodLink RX6 96 yX3_addPerson) ∈ sy_W := sy_W_of (tk_3 _ (List.mem_of_getElem? (i := 22) rfl)) rfl
theorem wm_286 : (Cond.instanceMethod yX3_addPerson) ∈ sy_W := sy_W_of (tk_3 _ (List.mem_of_getElem? (i := 23) rfl)) rfl
theorem wm_287 : (Cond.selects RX3 yX3_addPerson yX3_addPerson) ∈ sy_W := sy_W_of (tk_3 _ (List.mem_of_getElem? (i := 24) rfl)) rfl
theorem wm_288 : (Cond.code yX3_addPerson cX3_addPerson 6 none) ∈ sy_W := sy_W_of (tk_3 _ (List.mem_of_getElem? (i := 25) rfl)) rfl
theorem wm_289 : (Cond.methodLink RX6 68 yX6_readGoodness) ∈ sy_W := sy_W_of (tk_3 _ (List.mem_of_getElem? (i := 26) rfl)) rfl
theorem wm_290 : (Cond.instanceMethod yX6_readGoodness) ∈ sy_W := sy_W_of (tk_3 _ (List.mem_of_getElem? (i := 28) rfl)) rfl
theorem wm_291 : (Cond.selects RX6 yX6_readGoodness yX6_readGoodness) ∈ sy_W := sy_W_of (tp_1 (yX6_readGoodness, 9) (List.mem_of_getElem? (i := 10) rfl)) rfl
theorem wm_292 : (Cond.code yX6_readGoodness cX6_readGoodness 4 none) ∈ sy_W := sy_W_of (tk_3 _ (List.mem_of_getElem? (i := 29) rfl)) rfl
theorem wm_293 : (Cond.methodLink RX6 106 yX3_setGoodness) ∈ sy_W := sy_W_of (tk_3 _ (List.mem_of_getElem? (i := 30) rfl)) rfl
theorem wm_294 : (Cond.methodLink RX6 71 yX6_readFruit) ∈ sy_W := sy_W_of (tk_3 _ (List.mem_of_getElem? (i := 31) rfl)) rfl
theorem wm_295 : (Cond.instanceMethod yX6_readFruit) ∈ sy_W := sy_W_of (tk_3 _ (List.mem_of_getElem? (i := 33) rfl)) rfl
theorem wm_296 : (Cond.selects RX6 yX6_readFruit yX6_readFruit) ∈ sy_W := sy_W_of (tp_1 (yX6_readFruit, 9) (List.mem_of_getElem? (i := 11) rfl)) rfl
theorem wm_297 : (Cond.code yX6_readFruit cX6_readFruit 1 none) ∈ sy_W := sy_W_of (tk_3 _ (List.mem_of_getElem? (i := 34) rfl)) rfl
theorem wm_298 : (Cond.fieldLink RX6 110 "SkyTurns$Edge" "firstFruit" "I") ∈ sy_W := sy_W_of (tk_1 _ (List.mem_of_getElem? (i := 68) rfl)) rfl
theorem wm_299 : (Cond.methodLink RX11 126 yX3_copyFrom) ∈ sy_W := sy_W_of (tk_3 _ (List.mem_of_getElem? (i := 35) rfl)) rfl
theorem wm_300 : (Cond.instanceMethod yX3_copyFrom) ∈ sy_W := sy_W_of (tk_3 _ (List.mem_of_getElem? (i := 36) rfl)) rfl
theorem wm_301 : (Cond.selects RX3 yX3_copyFrom yX3_copyFrom) ∈ sy_W := sy_W_of (tk_3 _ (List.mem_of_getElem? (i := 37) rfl)) rfl
theorem wm_302 : (Cond.code yX3_copyFrom cX3_copyFrom 2 none) ∈ sy_W := sy_W_of (tk_3 _ (List.mem_of_getElem? (i := 38) rfl)) rfl
theorem wm_303 : (Cond.methodLink RX3 50 arraycopyName) ∈ sy_W := sy_W_of (tk_3 _ (List.mem_of_getElem? (i := 39) rfl)) rfl
theorem wm_304 : (Cond.native arraycopyName) ∈ sy_W := sy_W_of (tk_3 _ (List.mem_of_getElem? (i := 41) rfl)) rfl
theorem wm_305 : (Cond.static arraycopyName) ∈ sy_W := sy_W_of (tk_3 _ (List.mem_of_getElem? (i := 40) rfl)) rfl
theorem wm_306 : (Cond.initialized "java/lang/System") ∈ sy_W := sy_W_of (tk_1 _ (List.mem_of_getElem? (i := 14) rfl)) rfl
theorem wm_307 : (Cond.methodLink RX11 129 yX10_begin) ∈ sy_W := sy_W_of (tk_3 _ (List.mem_of_getElem? (i := 42) rfl)) rfl
theorem wm_308 : (Cond.methodLink RX11 132 yX5_forget) ∈ sy_W := sy_W_of (tk_3 _ (List.mem_of_getElem? (i := 43) rfl)) rfl
theorem wm_309 : (Cond.instanceMethod yX5_forget) ∈ sy_W := sy_W_of (tk_3 _ (List.mem_of_getElem? (i := 44) rfl)) rfl
theorem wm_310 : (Cond.selects RX5 yX5_forget yX5_forget) ∈ sy_W := sy_W_of (tk_3 _ (List.mem_of_getElem? (i := 45) rfl)) rfl
theorem wm_311 : (Cond.code yX5_forget cX5_forget 1 none) ∈ sy_W := sy_W_of (tk_3 _ (List.mem_of_getElem? (i := 46) rfl)) rfl
theorem wm_312 : (Cond.fieldLink RX5 20 "SkyTurns$Past" "count" "I") ∈ sy_W := sy_W_of (tk_1 _ (List.mem_of_getElem? (i := 196) rfl)) rfl
theorem wm_313 : (Cond.fieldLink RX5 24 "SkyTurns$Past" "next" "I") ∈ sy_W := sy_W_of (tk_1 _ (List.mem_of_getElem? (i := 198) rfl)) rfl
theorem wm_314 : (Cond.methodLink RX11 135 yX8_clear) ∈ sy_W := sy_W_of (tk_3 _ (List.mem_of_getElem? (i := 47) rfl)) rfl
theorem wm_315 : (Cond.instanceMethod yX8_clear) ∈ sy_W := sy_W_of (tk_3 _ (List.mem_of_getElem? (i := 48) rfl)) rfl
theorem wm_316 : (Cond.selects RX8 yX8_clear yX8_clear) ∈ sy_W := sy_W_of (tk_3 _ (List.mem_of_getElem? (i := 49) rfl)) rfl
theorem wm_317 : (Cond.code yX8_clear cX8_clear 1 none) ∈ sy_W := sy_W_of (tk_3 _ (List.mem_of_getElem? (i := 50) rfl)) rfl
theorem wm_318 : (Cond.fieldLink RX8 18 "SkyTurns$SeenRows" "seenCount" "I") ∈ sy_W := sy_W_of (tk_2 _ (List.mem_of_getElem? (i := 24) rfl)) rfl
theorem wm_319 : (Cond.methodLink RX11 138 yX0_clear) ∈ sy_W := sy_W_of (tk_3 _ (List.mem_of_getElem? (i := 51) rfl)) rfl
theorem wm_320 : (Cond.instanceMethod yX0_clear) ∈ sy_W := sy_W_of (tk_3 _ (List.mem_of_getElem? (i := 52) rfl)) rfl
theorem wm_321 : (Cond.selects RX0 yX0_clear yX0_clear) ∈ sy_W := sy_W_of (tk_3 _ (List.mem_of_getElem? (i := 53) rfl)) rfl
theorem wm_322 : (Cond.code yX0_clear cX0_clear 1 none) ∈ sy_W := sy_W_of (tk_3 _ (List.mem_of_getElem? (i := 54) rfl)) rfl
theorem wm_323 : (Cond.fieldLink RX0 22 "SkyTurns$Book" "lines" "I") ∈ sy_W := sy_W_of (tk_2 _ (List.mem_of_getElem? (i := 81) rfl)) rfl
theorem wm_324 : (Cond.methodLink RL 22 yX12_edge) ∈ sy_W := sy_W_of (tk_5 _ (List.mem_of_getElem? (i := 109) rfl)) rfl
theorem wm_325 : (Cond.instanceMethod yX12_edge) ∈ sy_W := sy_W_of (tk_5 _ (List.mem_of_getElem? (i := 110) rfl)) rfl
theorem wm_326 : (Cond.selects RX12 yX12_edge yX12_edge) ∈ sy_W := sy_W_of (tk_5 _ (List.mem_of_getElem? (i := 111) rfl)) rfl
theorem wm_327 : (Cond.code yX12_edge cX12_edge 3 (some .int)) ∈ sy_W := sy_W_of (tk_5 _ (List.mem_of_getElem? (i := 112) rfl)) rfl
theorem wm_328 : (Cond.fieldLink RX12 102 "SkyTurnsModel" "faultIs" "I") ∈ sy_W := sy_W_of (tk_5 _ (List.mem_of_getElem? (i := 1) rfl)) rfl
theorem wm_329 : (Cond.fieldLink RX12 120 "SkyTurnsModel" "readWeights" "I") ∈ sy_W := sy_W_of (tk_5 _ (List.mem_of_getElem? (i := 2) rfl)) rfl
theorem wm_330 : (Cond.fieldLink RX12 154 "SkyTurnsModel" "weights" "I") ∈ sy_W := sy_W_of (tk_5 _ (List.mem_of_getElem? (i := 11) rfl)) rfl
theorem wm_331 : (Cond.fieldLink RX12 123 "SkyTurnsModel" "readMany" "I") ∈ sy_W := sy_W_of (tk_5 _ (List.mem_of_getElem? (i := 4) rfl)) rfl
theorem wm_332 : (Cond.fieldLink RX12 136 "SkyTurnsModel" "readFruit" "I") ∈ sy_W := sy_W_of (tk_5 _ (List.mem_of_getElem? (i := 7) rfl)) rfl
theorem wm_333 : (Cond.methodLink RX12 151 yX12_isRead) ∈ sy_W := sy_W_of (tk_5 _ (List.mem_of_getElem? (i := 113) rfl)) rfl
theorem wm_334 : (Cond.instanceMethod yX12_isRead) ∈ sy_W := sy_W_of (tk_5 _ (List.mem_of_getElem? (i := 115) rfl)) rfl
theorem wm_335 : (Cond.selects RX12 yX12_isRead yX12_isRead) ∈ sy_W := sy_W_of (tp_2 (yX12_isRead, 35) (List.mem_of_getElem? (i := 13) rfl)) rfl
theorem wm_336 : (Cond.code yX12_isRead cX12_isRead 2 (some .boolean)) ∈ sy_W := sy_W_of (tk_5 _ (List.mem_of_getElem? (i := 116) rfl)) rfl
theorem wm_337 : (Cond.fieldLink RX12 90 "SkyTurnsModel" "position" "I") ∈ sy_W := sy_W_of (tk_4 _ (List.mem_of_getElem? (i := 236) rfl)) rfl
theorem wm_338 : (Cond.fieldLink RX12 112 "SkyTurnsModel" "hasWeights" "Z") ∈ sy_W := sy_W_of (tk_5 _ (List.mem_of_getElem? (i := 8) rfl)) rfl
theorem wm_339 : (Cond.fieldLink RX12 130 "SkyTurnsModel" "hasWords" "Z") ∈ sy_W := sy_W_of (tk_5 _ (List.mem_of_getElem? (i := 9) rfl)) rfl
theorem wm_340 : (Cond.fieldLink RX12 133 "SkyTurnsModel" "hasFruit" "Z") ∈ sy_W := sy_W_of (tk_5 _ (List.mem_of_getElem? (i := 10) rfl)) rfl
theorem wm_341 : (Cond.fieldLink RX12 99 "SkyTurnsModel" "token" "I") ∈ sy_W := sy_W_of (tk_4 _ (List.mem_of_getElem? (i := 238) rfl)) rfl
theorem wm_342 : (Cond.methodLink RX12 105 yX12_nextToken) ∈ sy_W := sy_W_of (tk_5 _ (List.mem_of_getElem? (i := 117) rfl)) rfl
theorem wm_343 : (Cond.instanceMethod yX12_nextToken) ∈ sy_W := sy_W_of (tk_5 _ (List.mem_of_getElem? (i := 119) rfl)) rfl
theorem wm_344 : (Cond.selects RX12 yX12_nextToken yX12_nextToken) ∈ sy_W := sy_W_of (tp_2 (yX12_nextToken, 35) (List.mem_of_getElem? (i := 14) rfl)) rfl
theorem wm_345 : (Cond.code yX12_nextToken cX12_nextToken 1 none) ∈ sy_W := sy_W_of (tk_5 _ (List.mem_of_getElem? (i := 120) rfl)) rfl
theorem wm_346 : (Cond.fieldLink RX12 93 "SkyTurnsModel" "tokenAt" "I") ∈ sy_W := sy_W_of (tk_4 _ (List.mem_of_getElem? (i := 237) rfl)) rfl
theorem wm_347 : (Cond.fieldLink RX12 96 "SkyTurnsModel" "number" "I") ∈ sy_W := sy_W_of (tk_4 _ (List.mem_of_getElem? (i := 239) rfl)) rfl
theorem wm_348 : (Cond.methodLink RX12 139 yX12_isWeightLine) ∈ sy_W := sy_W_of (tk_5 _ (List.mem_of_getElem? (i := 121) rfl)) rfl
theorem wm_349 : (Cond.instanceMethod yX12_isWeightLine) ∈ sy_W := sy_W_of (tk_5 _ (List.mem_of_getElem? (i := 123) rfl)) rfl
theorem wm_350 : (Cond.selects RX12 yX12_isWeightLine yX12_isWeightLine) ∈ sy_W := sy_W_of (tp_2 (yX12_isWeightLine, 35) (List.mem_of_getElem? (i := 15) rfl)) rfl
theorem wm_351 : (Cond.code yX12_isWeightLine cX12_isWeightLine 2 (some .boolean)) ∈ sy_W := sy_W_of (tk_5 _ (List.mem_of_getElem? (i := 124) rfl)) rfl
theorem wm_352 : (Cond.methodLink RX12 108 yX12_fails) ∈ sy_W := sy_W_of (tk_5 _ (List.mem_of_getElem? (i := 125) rfl)) rfl
theorem wm_353 : (Cond.instanceMethod yX12_fails) ∈ sy_W := sy_W_of (tk_5 _ (List.mem_of_getElem? (i := 127) rfl)) rfl
theorem wm_354 : (Cond.selects RX12 yX12_fails yX12_fails) ∈ sy_W := sy_W_of (tp_3 (yX12_fails, 35) (List.mem_of_getElem? (i := 0) rfl)) rfl
theorem wm_355 : (Cond.code yX12_fails cX12_fails 2 (some .boolean)) ∈ sy_W := sy_W_of (tk_5 _ (List.mem_of_getElem? (i := 128) rfl)) rfl
theorem wm_356 : (Cond.methodLink RX12 116 yX12_isNumber) ∈ sy_W := sy_W_of (tk_5 _ (List.mem_of_getElem? (i := 129) rfl)) rfl
theorem wm_357 : (Cond.instanceMethod yX12_isNumber) ∈ sy_W := sy_W_of (tk_5 _ (List.mem_of_getElem? (i := 131) rfl)) rfl
theorem wm_358 : (Cond.selects RX12 yX12_isNumber yX12_isNumber) ∈ sy_W := sy_W_of (tp_3 (yX12_isNumber, 35) (List.mem_of_getElem? (i := 1) rfl)) rfl
theorem wm_359 : (Cond.code yX12_isNumber cX12_isNumber 3 (some .boolean)) ∈ sy_W := sy_W_of (tk_5 _ (List.mem_of_getElem? (i := 132) rfl)) rfl
theorem wm_360 : (Cond.methodLink RX12 142 yX12_isPersonLine) ∈ sy_W := sy_W_of (tk_5 _ (List.mem_of_getElem? (i := 133) rfl)) rfl
theorem wm_361 : (Cond.instanceMethod yX12_isPersonLine) ∈ sy_W := sy_W_of (tk_5 _ (List.mem_of_getElem? (i := 135) rfl)) rfl
theorem wm_362 : (Cond.selects RX12 yX12_isPersonLine yX12_isPersonLine) ∈ sy_W := sy_W_of (tp_3 (yX12_isPersonLine, 35) (List.mem_of_getElem? (i := 2) rfl)) rfl
theorem wm_363 : (Cond.code yX12_isPersonLine cX12_isPersonLine 3 (some .boolean)) ∈ sy_W := sy_W_of (tk_5 _ (List.mem_of_getElem? (i := 136) rfl)) rfl
theorem wm_364 : (Cond.methodLink RX12 126 yX12_isEnd) ∈ sy_W := sy_W_of (tk_5 _ (List.mem_of_getElem? (i := 137) rfl)) rfl
theorem wm_365 : (Cond.instanceMethod yX12_isEnd) ∈ sy_W := sy_W_of (tk_5 _ (List.mem_of_getElem? (i := 139) rfl)) rfl
theorem wm_366 : (Cond.selects RX12 yX12_isEnd yX12_isEnd) ∈ sy_W := sy_W_of (tp_3 (yX12_isEnd, 35) (List.mem_of_getElem? (i := 3) rfl)) rfl
theorem wm_367 : (Cond.code yX12_isEnd cX12_isEnd 1 (some .boolean)) ∈ sy_W := sy_W_of (tk_5 _ (List.mem_of_getElem? (i := 140) rfl)) rfl
theorem wm_368 : (Cond.methodLink RX12 145 yX12_isWordLine) ∈ sy_W := sy_W_of (tk_5 _ (List.mem_of_getElem? (i := 141) rfl)) rfl
theorem wm_369 : (Cond.instanceMethod yX12_isWordLine) ∈ sy_W := sy_W_of (tk_5 _ (List.mem_of_getElem? (i := 143) rfl)) rfl
theorem wm_370 : (Cond.selects RX12 yX12_isWordLine yX12_isWordLine) ∈ sy_W := sy_W_of (tp_3 (yX12_isWordLine, 35) (List.mem_of_getElem? (i := 4) rfl)) rfl
theorem wm_371 : (Cond.code yX12_isWordLine cX12_isWordLine 2 (some .boolean)) ∈ sy_W := sy_W_of (tk_5 _ (List.mem_of_getElem? (i := 144) rfl)) rfl
theorem wm_372 : (Cond.methodLink RX12 148 yX12_isFruitLine) ∈ sy_W := sy_W_of (tk_5 _ (List.mem_of_getElem? (i := 145) rfl)) rfl
theorem wm_373 : (Cond.instanceMethod yX12_isFruitLine) ∈ sy_W := sy_W_of (tk_5 _ (List.mem_of_getElem? (i := 147) rfl)) rfl
theorem wm_374 : (Cond.selects RX12 yX12_isFruitLine yX12_isFruitLine) ∈ sy_W := sy_W_of (tp_3 (yX12_isFruitLine, 35) (List.mem_of_getElem? (i := 5) rfl)) rfl
theorem wm_375 : (Cond.code yX12_isFruitLine cX12_isFruitLine 1 (some .boolean)) ∈ sy_W := sy_W_of (tk_5 _ (List.mem_of_getElem? (i := 148) rfl)) rfl
theorem wm_376 : (Cond.methodLink RL 23 yX11_fault) ∈ sy_W := sy_W_of (tk_3 _ (List.mem_of_getElem? (i := 55) rfl)) rfl
theorem wm_377 : (Cond.instanceMethod yX11_fault) ∈ sy_W := sy_W_of (tk_3 _ (List.mem_of_getElem? (i := 56) rfl)) rfl
theorem wm_378 : (Cond.selects RX11 yX11_fault yX11_fault) ∈ sy_W := sy_W_of (tk_3 _ (List.mem_of_getElem? (i := 57) rfl)) rfl
theorem wm_379 : (Cond.code yX11_fault cX11_fault 1 (some .int)) ∈ sy_W := sy_W_of (tk_3 _ (List.mem_of_getElem? (i := 58) rfl)) rfl
theorem wm_380 : (Cond.methodLink RL 26 yX12_fault) ∈ sy_W := sy_W_of (tk_5 _ (List.mem_of_getElem? (i := 149) rfl)) rfl
theorem wm_381 : (Cond.instanceMethod yX12_fault) ∈ sy_W := sy_W_of (tk_5 _ (List.mem_of_getElem? (i := 150) rfl)) rfl
theorem wm_382 : (Cond.selects RX12 yX12_fault yX12_fault) ∈ sy_W := sy_W_of (tk_5 _ (List.mem_of_getElem? (i := 151) rfl)) rfl
theorem wm_383 : (Cond.code yX12_fault cX12_fault 1 (some .int)) ∈ sy_W := sy_W_of (tk_5 _ (List.mem_of_getElem? (i := 152) rfl)) rfl
theorem wm_384 : (Cond.methodLink RL 27 yX11_told) ∈ sy_W := sy_W_of (tk_3 _ (List.mem_of_getElem? (i := 59) rfl)) rfl
theorem wm_385 : (Cond.instanceMethod yX11_told) ∈ sy_W := sy_W_of (tk_3 _ (List.mem_of_getElem? (i := 60) rfl)) rfl
theorem wm_386 : (Cond.selects RX11 yX11_told yX11_told) ∈ sy_W := sy_W_of (tk_3 _ (List.mem_of_getElem? (i := 61) rfl)) rfl
theorem wm_387 : (Cond.code yX11_told cX11_told 2 (some .int)) ∈ sy_W := sy_W_of (tk_3 _ (List.mem_of_getElem? (i := 62) rfl)) rfl
theorem wm_388 : (Cond.fieldLink RX11 142 "SkyTurns$Edge" "weightCount" "I") ∈ sy_W := sy_W_of (tk_1 _ (List.mem_of_getElem? (i := 58) rfl)) rfl
theorem wm_389 : (Cond.fieldLink RX11 145 "SkyTurns$Sky" "clock" "I") ∈ sy_W := sy_W_of (tk_1 _ (List.mem_of_getElem? (i := 113) rfl)) rfl
theorem wm_390 : (Cond.fieldLink RX11 148 "SkyTurns$Sky" "low" "I") ∈ sy_W := sy_W_of (tk_1 _ (List.mem_of_getElem? (i := 115) rfl)) rfl
theorem wm_391 : (Cond.fieldLink RX11 151 "SkyTurns$Sky" "harm" "I") ∈ sy_W := sy_W_of (tk_1 _ (List.mem_of_getElem? (i := 117) rfl)) rfl
theorem wm_392 : (Cond.fieldLink RX11 154 "SkyTurns$Sky" "fruitLeft" "I") ∈ sy_W := sy_W_of (tk_1 _ (List.mem_of_getElem? (i := 119) rfl)) rfl
theorem wm_393 : (Cond.fieldLink RX11 157 "SkyTurns$Sky" "holder" "I") ∈ sy_W := sy_W_of (tk_1 _ (List.mem_of_getElem? (i := 121) rfl)) rfl
theorem wm_394 : (Cond.fieldLink RX11 160 "SkyTurns$Sky" "beside" "I") ∈ sy_W := sy_W_of (tk_1 _ (List.mem_of_getElem? (i := 123) rfl)) rfl
theorem wm_395 : (Cond.fieldLink RX11 170 "SkyTurns$SeenRows" "seenCount" "I") ∈ sy_W := sy_W_of (tk_2 _ (List.mem_of_getElem? (i := 25) rfl)) rfl
theorem wm_396 : (Cond.fieldLink RX11 173 "SkyTurns$Book" "lines" "I") ∈ sy_W := sy_W_of (tk_2 _ (List.mem_of_getElem? (i := 82) rfl)) rfl
theorem wm_397 : (Cond.fieldLink RX11 176 "SkyTurns$Past" "count" "I") ∈ sy_W := sy_W_of (tk_1 _ (List.mem_of_getElem? (i := 197) rfl)) rfl
theorem wm_398 : (Cond.methodLink RX11 163 yX3_weightAt) ∈ sy_W := sy_W_of (tk_3 _ (List.mem_of_getElem? (i := 63) rfl)) rfl
theorem wm_399 : (Cond.instanceMethod yX3_weightAt) ∈ sy_W := sy_W_of (tk_3 _ (List.mem_of_getElem? (i := 64) rfl)) rfl
theorem wm_400 : (Cond.selects RX3 yX3_weightAt yX3_weightAt) ∈ sy_W := sy_W_of (tk_3 _ (List.mem_of_getElem? (i := 65) rfl)) rfl
theorem wm_401 : (Cond.code yX3_weightAt cX3_weightAt 2 (some .int)) ∈ sy_W := sy_W_of (tk_3 _ (List.mem_of_getElem? (i := 66) rfl)) rfl
theorem wm_402 : (Cond.methodLink RX11 166 yX10_forceHeld) ∈ sy_W := sy_W_of (tk_3 _ (List.mem_of_getElem? (i := 67) rfl)) rfl
theorem wm_403 : (Cond.instanceMethod yX10_forceHeld) ∈ sy_W := sy_W_of (tk_3 _ (List.mem_of_getElem? (i := 68) rfl)) rfl
theorem wm_404 : (Cond.selects RX10 yX10_forceHeld yX10_forceHeld) ∈ sy_W := sy_W_of (tk_3 _ (List.mem_of_getElem? (i := 69) rfl)) rfl
theorem wm_405 : (Cond.code yX10_forceHeld cX10_forceHeld 1 (some .int)) ∈ sy_W := sy_W_of (tk_3 _ (List.mem_of_getElem? (i := 70) rfl)) rfl
theorem wm_406 : (Cond.methodLink RX10 100 yX10_forceOf) ∈ sy_W := sy_W_of (tk_3 _ (List.mem_of_getElem? (i := 71) rfl)) rfl
theorem wm_407 : (Cond.instanceMethod yX10_forceOf) ∈ sy_W := sy_W_of (tk_3 _ (List.mem_of_getElem? (i := 72) rfl)) rfl
theorem wm_408 : (Cond.selects RX10 yX10_forceOf yX10_forceOf) ∈ sy_W := sy_W_of (tk_3 _ (List.mem_of_getElem? (i := 73) rfl)) rfl
theorem wm_409 : (Cond.code yX10_forceOf cX10_forceOf 5 (some .int)) ∈ sy_W := sy_W_of (tk_3 _ (List.mem_of_getElem? (i := 74) rfl)) rfl
theorem wm_410 : (Cond.fieldLink RX10 88 "SkyTurns$Edge" "kind" "[I") ∈ sy_W := sy_W_of (tk_1 _ (List.mem_of_getElem? (i := 41) rfl)) rfl
theorem wm_411 : (Cond.fieldLink RX10 91 "SkyTurns$Edge" "strength" "[I") ∈ sy_W := sy_W_of (tk_1 _ (List.mem_of_getElem? (i := 44) rfl)) rfl
theorem wm_412 : (Cond.methodLink RX10 94 Lib.Math.max.name) ∈ sy_W := sy_W_of (tk_3 _ (List.mem_of_getElem? (i := 76) rfl)) rfl
theorem wm_413 : (Cond.static Lib.Math.max.name) ∈ sy_W := sy_W_of (tk_3 _ (List.mem_of_getElem? (i := 77) rfl)) rfl
theorem wm_414 : (Cond.initialized "java/lang/Math") ∈ sy_W := sy_W_of (tk_1 _ (List.mem_of_getElem? (i := 15) rfl)) rfl
theorem wm_415 : (Cond.code Lib.Math.max.name Lib.Math.max.code 2 (some .int)) ∈ sy_W := sy_W_of (tk_3 _ (List.mem_of_getElem? (i := 78) rfl)) rfl
theorem wm_416 : (Cond.methodLink RX10 68 yX3_isPerson) ∈ sy_W := sy_W_of (tk_3 _ (List.mem_of_getElem? (i := 75) rfl)) rfl
theorem wm_417 : (Cond.methodLink RL 30 yX12_told) ∈ sy_W := sy_W_of (tk_5 _ (List.mem_of_getElem? (i := 153) rfl)) rfl
theorem wm_418 : (Cond.instanceMethod yX12_told) ∈ sy_W := sy_W_of (tk_5 _ (List.mem_of_getElem? (i := 154) rfl)) rfl
theorem wm_419 : (Cond.selects RX12 yX12_told yX12_told) ∈ sy_W := sy_W_of (tk_5 _ (List.mem_of_getElem? (i := 155) rfl)) rfl
theorem wm_420 : (Cond.code yX12_told cX12_told 2 (some .int)) ∈ sy_W := sy_W_of (tk_5 _ (List.mem_of_getElem? (i := 156) rfl)) rfl
theorem wm_421 : (Cond.methodLink RX12 165 yX12_weightOf) ∈ sy_W := sy_W_of (tk_5 _ (List.mem_of_getElem? (i := 157) rfl)) rfl
theorem wm_422 : (Cond.instanceMethod yX12_weightOf) ∈ sy_W := sy_W_of (tk_5 _ (List.mem_of_getElem? (i := 159) rfl)) rfl
theorem wm_423 : (Cond.selects RX12 yX12_weightOf yX12_weightOf) ∈ sy_W := sy_W_of (tp_3 (yX12_weightOf, 35) (List.mem_of_getElem? (i := 6) rfl)) rfl
theorem wm_424 : (Cond.code yX12_weightOf cX12_weightOf 2 (some .int)) ∈ sy_W := sy_W_of (tk_5 _ (List.mem_of_getElem? (i := 160) rfl)) rfl
theorem wm_425 : (Cond.methodLink RX12 169 yX12_forceOfAll) ∈ sy_W := sy_W_of (tk_5 _ (List.mem_of_getElem? (i := 161) rfl)) rfl
theorem wm_426 : (Cond.instanceMethod yX12_forceOfAll) ∈ sy_W := sy_W_of (tk_5 _ (List.mem_of_getElem? (i := 163) rfl)) rfl
theorem wm_427 : (Cond.selects RX12 yX12_forceOfAll yX12_forceOfAll) ∈ sy_W := sy_W_of (tp_3 (yX12_forceOfAll, 35) (List.mem_of_getElem? (i := 7) rfl)) rfl
theorem wm_428 : (Cond.code yX12_forceOfAll cX12_forceOfAll 3 (some .int)) ∈ sy_W := sy_W_of (tk_5 _ (List.mem_of_getElem? (i := 164) rfl)) rfl
theorem wm_429 : (Cond.methodLink RX12 161 yX12_forceOf) ∈ sy_W := sy_W_of (tk_5 _ (List.mem_of_getElem? (i := 165) rfl)) rfl
theorem wm_430 : (Cond.instanceMethod yX12_forceOf) ∈ sy_W := sy_W_of (tk_5 _ (List.mem_of_getElem? (i := 167) rfl)) rfl
theorem wm_431 : (Cond.selects RX12 yX12_forceOf yX12_forceOf) ∈ sy_W := sy_W_of (tp_3 (yX12_forceOf, 35) (List.mem_of_getElem? (i := 8) rfl)) rfl
theorem wm_432 : (Cond.code yX12_forceOf cX12_forceOf 5 (some .int)) ∈ sy_W := sy_W_of (tk_5 _ (List.mem_of_getElem? (i := 168) rfl)) rfl
theorem wm_433 : (Cond.methodLink RX12 157 yX12_kindOf) ∈ sy_W := sy_W_of (tk_5 _ (List.mem_of_getElem? (i := 169) rfl)) rfl
theorem wm_434 : (Cond.instanceMethod yX12_kindOf) ∈ sy_W := sy_W_of (tk_5 _ (List.mem_of_getElem? (i := 171) rfl)) rfl
theorem wm_435 : (Cond.selects RX12 yX12_kindOf yX12_kindOf) ∈ sy_W := sy_W_of (tp_3 (yX12_kindOf, 35) (List.mem_of_getElem? (i := 9) rfl)) rfl
theorem wm_436 : (Cond.code yX12_kindOf cX12_kindOf 2 (some .int)) ∈ sy_W := sy_W_of (tk_5 _ (List.mem_of_getElem? (i := 172) rfl)) rfl
theorem wm_437 : (Cond.methodLink RL 31 yX11_person) ∈ sy_W := sy_W_of (tk_3 _ (List.mem_of_getElem? (i := 79) rfl)) rfl
theorem wm_438 : (Cond.instanceMethod yX11_person) ∈ sy_W := sy_W_of (tk_3 _ (List.mem_of_getElem? (i := 80) rfl)) rfl
theorem wm_439 : (Cond.selects RX11 yX11_person yX11_person) ∈ sy_W := sy_W_of (tk_3 _ (List.mem_of_getElem? (i := 81) rfl)) rfl
theorem wm_440 : (Cond.code yX11_person cX11_person 3 (some .int)) ∈ sy_W := sy_W_of (tk_3 _ (List.mem_of_getElem? (i := 82) rfl)) rfl
theorem wm_441 : (Cond.constant RX11 183 (-1000000001)) ∈ sy_W := sy_W_of (tk_3 _ (List.mem_of_getElem? (i := 84) rfl)) rfl
theorem wm_442 : (Cond.fieldLink RX11 184 "SkyTurns$Edge" "kind" "[I") ∈ sy_W := sy_W_of (tk_1 _ (List.mem_of_getElem? (i := 40) rfl)) rfl
theorem wm_443 : (Cond.fieldLink RX11 187 "SkyTurns$Edge" "strength" "[I") ∈ sy_W := sy_W_of (tk_1 _ (List.mem_of_getElem? (i := 43) rfl)) rfl
theorem wm_444 : (Cond.fieldLink RX11 190 "SkyTurns$Edge" "height" "[I") ∈ sy_W := sy_W_of (tk_1 _ (List.mem_of_getElem? (i := 46) rfl)) rfl
theorem wm_445 : (Cond.fieldLink RX11 193 "SkyTurns$Edge" "wits" "[I") ∈ sy_W := sy_W_of (tk_1 _ (List.mem_of_getElem? (i := 48) rfl)) rfl
theorem wm_446 : (Cond.fieldLink RX11 196 "SkyTurns$Edge" "father" "[I") ∈ sy_W := sy_W_of (tk_1 _ (List.mem_of_getElem? (i := 52) rfl)) rfl
theorem wm_447 : (Cond.fieldLink RX11 199 "SkyTurns$Sky" "tired" "[I") ∈ sy_W := sy_W_of (tk_1 _ (List.mem_of_getElem? (i := 104) rfl)) rfl
theorem wm_448 : (Cond.fieldLink RX11 202 "SkyTurns$Sky" "held" "[I") ∈ sy_W := sy_W_of (tk_1 _ (List.mem_of_getElem? (i := 107) rfl)) rfl
theorem wm_449 : (Cond.fieldLink RX11 205 "SkyTurns$Sky" "fallen" "[I") ∈ sy_W := sy_W_of (tk_1 _ (List.mem_of_getElem? (i := 111) rfl)) rfl
theorem wm_450 : (Cond.fieldLink RX11 211 "SkyTurns$Sky" "unbroken" "[I") ∈ sy_W := sy_W_of (tk_1 _ (List.mem_of_getElem? (i := 109) rfl)) rfl
theorem wm_451 : (Cond.methodLink RX11 179 yX3_isPerson) ∈ sy_W := sy_W_of (tk_3 _ (List.mem_of_getElem? (i := 83) rfl)) rfl
theorem wm_452 : (Cond.methodLink RX11 208 yX10_forceOf) ∈ sy_W := sy_W_of (tk_3 _ (List.mem_of_getElem? (i := 85) rfl)) rfl
theorem wm_453 : (Cond.methodLink RL 35 yX12_person) ∈ sy_W := sy_W_of (tk_5 _ (List.mem_of_getElem? (i := 173) rfl)) rfl
theorem wm_454 : (Cond.instanceMethod yX12_person) ∈ sy_W := sy_W_of (tk_5 _ (List.mem_of_getElem? (i := 174) rfl)) rfl
theorem wm_455 : (Cond.selects RX12 yX12_person yX12_person) ∈ sy_W := sy_W_of (tk_5 _ (List.mem_of_getElem? (i := 175) rfl)) rfl
theorem wm_456 : (Cond.code yX12_person cX12_person 3 (some .int)) ∈ sy_W := sy_W_of (tk_5 _ (List.mem_of_getElem? (i := 176) rfl)) rfl
theorem wm_457 : (Cond.constant RX12 180 (-1000000001)) ∈ sy_W := sy_W_of (tk_5 _ (List.mem_of_getElem? (i := 181) rfl)) rfl
theorem wm_458 : (Cond.methodLink RX12 177 yX12_isOne) ∈ sy_W := sy_W_of (tk_5 _ (List.mem_of_getElem? (i := 177) rfl)) rfl
theorem wm_459 : (Cond.instanceMethod yX12_isOne) ∈ sy_W := sy_W_of (tk_5 _ (List.mem_of_getElem? (i := 179) rfl)) rfl
theorem wm_460 : (Cond.selects RX12 yX12_isOne yX12_isOne) ∈ sy_W := sy_W_of (tp_3 (yX12_isOne, 35) (List.mem_of_getElem? (i := 10) rfl)) rfl
theorem wm_461 : (Cond.code yX12_isOne cX12_isOne 2 (some .boolean)) ∈ sy_W := sy_W_of (tk_5 _ (List.mem_of_getElem? (i := 180) rfl)) rfl
theorem wm_462 : (Cond.methodLink RL 36 yX11_word) ∈ sy_W := sy_W_of (tk_3 _ (List.mem_of_getElem? (i := 86) rfl)) rfl
theorem wm_463 : (Cond.instanceMethod yX11_word) ∈ sy_W := sy_W_of (tk_3 _ (List.mem_of_getElem? (i := 87) rfl)) rfl
theorem wm_464 : (Cond.selects RX11 yX11_word yX11_word) ∈ sy_W := sy_W_of (tk_3 _ (List.mem_of_getElem? (i := 88) rfl)) rfl
theorem wm_465 : (Cond.code yX11_word cX11_word 2 (some .int)) ∈ sy_W := sy_W_of (tk_3 _ (List.mem_of_getElem? (i := 89) rfl)) rfl
theorem wm_466 : (Cond.fieldLink RX11 217 "SkyTurns$Edge" "goodness" "[I") ∈ sy_W := sy_W_of (tk_1 _ (List.mem_of_getElem? (i := 54) rfl)) rfl
theorem wm_467 : (Cond.methodLink RX11 214 yX11_isWord) ∈ sy_W := sy_W_of (tk_3 _ (List.mem_of_getElem? (i := 90) rfl)) rfl
theorem wm_468 : (Cond.static yX11_isWord) ∈ sy_W := sy_W_of (tk_3 _ (List.mem_of_getElem? (i := 91) rfl)) rfl
theorem wm_469 : (Cond.code yX11_isWord cX11_isWord 1 (some .boolean)) ∈ sy_W := sy_W_of (tk_3 _ (List.mem_of_getElem? (i := 92) rfl)) rfl
theorem wm_470 : (Cond.methodLink RL 39 yX12_word) ∈ sy_W := sy_W_of (tk_5 _ (List.mem_of_getElem? (i := 182) rfl)) rfl
theorem wm_471 : (Cond.instanceMethod yX12_word) ∈ sy_W := sy_W_of (tk_5 _ (List.mem_of_getElem? (i := 183) rfl)) rfl
theorem wm_472 : (Cond.selects RX12 yX12_word yX12_word) ∈ sy_W := sy_W_of (tk_5 _ (List.mem_of_getElem? (i := 184) rfl)) rfl
theorem wm_473 : (Cond.code yX12_word cX12_word 2 (some .int)) ∈ sy_W := sy_W_of (tk_5 _ (List.mem_of_getElem? (i := 185) rfl)) rfl
theorem wm_474 : (Cond.methodLink RL 40 yX11_hour) ∈ sy_W := sy_W_of (tk_3 _ (List.mem_of_getElem? (i := 93) rfl)) rfl
theorem wm_475 : (Cond.instanceMethod yX11_hour) ∈ sy_W := sy_W_of (tk_3 _ (List.mem_of_getElem? (i := 94) rfl)) rfl
theorem wm_476 : (Cond.selects RX11 yX11_hour yX11_hour) ∈ sy_W := sy_W_of (tk_3 _ (List.mem_of_getElem? (i := 95) rfl)) rfl
theorem wm_477 : (Cond.code yX11_hour cX11_hour 3 (some .int)) ∈ sy_W := sy_W_of (tk_3 _ (List.mem_of_getElem? (i := 96) rfl)) rfl
theorem wm_478 : (Cond.constant RX11 224 (-1000000003)) ∈ sy_W := sy_W_of (tk_3 _ (List.mem_of_getElem? (i := 101) rfl)) rfl
theorem wm_479 : (Cond.methodLink RX11 220 yX3_isWhole) ∈ sy_W := sy_W_of (tk_3 _ (List.mem_of_getElem? (i := 97) rfl)) rfl
theorem wm_480 : (Cond.instanceMethod yX3_isWhole) ∈ sy_W := sy_W_of (tk_3 _ (List.mem_of_getElem? (i := 98) rfl)) rfl
theorem wm_481 : (Cond.selects RX3 yX3_isWhole yX3_isWhole) ∈ sy_W := sy_W_of (tk_3 _ (List.mem_of_getElem? (i := 99) rfl)) rfl
theorem wm_482 : (Cond.code yX3_isWhole cX3_isWhole 1 (some .boolean)) ∈ sy_W := sy_W_of (tk_3 _ (List.mem_of_getElem? (i := 100) rfl)) rfl
theorem wm_483 : (Cond.methodLink RX11 225 yX11_letHourPass) ∈ sy_W := sy_W_of (tk_3 _ (List.mem_of_getElem? (i := 102) rfl)) rfl
theorem wm_484 : (Cond.instanceMethod yX11_letHourPass) ∈ sy_W := sy_W_of (tk_3 _ (List.mem_of_getElem? (i := 104) rfl)) rfl
theorem wm_485 : (Cond.selects RX11 yX11_letHourPass yX11_letHourPass) ∈ sy_W := sy_W_of (tp_1 (yX11_letHourPass, 16) (List.mem_of_getElem? (i := 12) rfl)) rfl
theorem wm_486 : (Cond.code yX11_letHourPass cX11_letHourPass 1 none) ∈ sy_W := sy_W_of (tk_3 _ (List.mem_of_getElem? (i := 105) rfl)) rfl
theorem wm_487 : (Cond.methodLink RX11 331 yX5_add) ∈ sy_W := sy_W_of (tk_3 _ (List.mem_of_getElem? (i := 106) rfl)) rfl
theorem wm_488 : (Cond.instanceMethod yX5_add) ∈ sy_W := sy_W_of (tk_3 _ (List.mem_of_getElem? (i := 107) rfl)) rfl
theorem wm_489 : (Cond.selects RX5 yX5_add yX5_add) ∈ sy_W := sy_W_of (tk_3 _ (List.mem_of_getElem? (i := 108) rfl)) rfl
theorem wm_490 : (Cond.code yX5_add cX5_add 2 none) ∈ sy_W := sy_W_of (tk_3 _ (List.mem_of_getElem? (i := 109) rfl)) rfl
theorem wm_491 : (Cond.methodLink RX5 31 Lib.Math.min.name) ∈ sy_W := sy_W_of (tk_3 _ (List.mem_of_getElem? (i := 115) rfl)) rfl
theorem wm_492 : (Cond.static Lib.Math.min.name) ∈ sy_W := sy_W_of (tk_3 _ (List.mem_of_getElem? (i := 116) rfl)) rfl
theorem wm_493 : (Cond.code Lib.Math.min.name Lib.Math.min.code 2 (some .int)) ∈ sy_W := sy_W_of (tk_3 _ (List.mem_of_getElem? (i := 117) rfl)) rfl
theorem wm_494 : (Cond.methodLink RX5 27 yX10_copyFrom) ∈ sy_W := sy_W_of (tk_3 _ (List.mem_of_getElem? (i := 110) rfl)) rfl
theorem wm_495 : (Cond.instanceMethod yX10_copyFrom) ∈ sy_W := sy_W_of (tk_3 _ (List.mem_of_getElem? (i := 111) rfl)) rfl
theorem wm_496 : (Cond.selects RX10 yX10_copyFrom yX10_copyFrom) ∈ sy_W := sy_W_of (tk_3 _ (List.mem_of_getElem? (i := 112) rfl)) rfl
theorem wm_497 : (Cond.code yX10_copyFrom cX10_copyFrom 2 none) ∈ sy_W := sy_W_of (tk_3 _ (List.mem_of_getElem? (i := 113) rfl)) rfl
theorem wm_498 : (Cond.methodLink RX10 58 arraycopyName) ∈ sy_W := sy_W_of (tk_3 _ (List.mem_of_getElem? (i := 114) rfl)) rfl
theorem wm_499 : (Cond.methodLink RX11 333 yX10_passHour) ∈ sy_W := sy_W_of (tk_3 _ (List.mem_of_getElem? (i := 118) rfl)) rfl
theorem wm_500 : (Cond.instanceMethod yX10_passHour) ∈ sy_W := sy_W_of (tk_3 _ (List.mem_of_getElem? (i := 119) rfl)) rfl
theorem wm_501 : (Cond.selects RX10 yX10_passHour yX10_passHour) ∈ sy_W := sy_W_of (tk_3 _ (List.mem_of_getElem? (i := 120) rfl)) rfl
theorem wm_502 : (Cond.code yX10_passHour cX10_passHour 2 none) ∈ sy_W := sy_W_of (tk_3 _ (List.mem_of_getElem? (i := 121) rfl)) rfl
theorem wm_503 : (Cond.methodLink RX10 110 yX10_lowBehind) ∈ sy_W := sy_W_of (tk_3 _ (List.mem_of_getElem? (i := 122) rfl)) rfl
theorem wm_504 : (Cond.instanceMethod yX10_lowBehind) ∈ sy_W := sy_W_of (tk_3 _ (List.mem_of_getElem? (i := 123) rfl)) rfl
theorem wm_505 : (Cond.selects RX10 yX10_lowBehind yX10_lowBehind) ∈ sy_W := sy_W_of (tk_3 _ (List.mem_of_getElem? (i := 124) rfl)) rfl
theorem wm_506 : (Cond.code yX10_lowBehind cX10_lowBehind 8 (some .int)) ∈ sy_W := sy_W_of (tk_3 _ (List.mem_of_getElem? (i := 125) rfl)) rfl
theorem wm_507 : (Cond.methodLink RX10 107 Lib.Math.min.name) ∈ sy_W := sy_W_of (tk_3 _ (List.mem_of_getElem? (i := 127) rfl)) rfl
theorem wm_508 : (Cond.methodLink RX10 104 yX3_weightAt) ∈ sy_W := sy_W_of (tk_3 _ (List.mem_of_getElem? (i := 126) rfl)) rfl
theorem wm_509 : (Cond.methodLink RX10 114 yX10_endHour) ∈ sy_W := sy_W_of (tk_3 _ (List.mem_of_getElem? (i := 128) rfl)) rfl
theorem wm_510 : (Cond.instanceMethod yX10_endHour) ∈ sy_W := sy_W_of (tk_3 _ (List.mem_of_getElem? (i := 129) rfl)) rfl
theorem wm_511 : (Cond.selects RX10 yX10_endHour yX10_endHour) ∈ sy_W := sy_W_of (tk_3 _ (List.mem_of_getElem? (i := 130) rfl)) rfl
theorem wm_512 : (Cond.code yX10_endHour cX10_endHour 3 none) ∈ sy_W := sy_W_of (tk_3 _ (List.mem_of_getElem? (i := 131) rfl)) rfl
theorem wm_513 : (Cond.constant RX10 117 (999999999)) ∈ sy_W := sy_W_of (tk_3 _ (List.mem_of_getElem? (i := 132) rfl)) rfl
theorem wm_514 : (Cond.methodLink RX10 118 yX10_isHolding) ∈ sy_W := sy_W_of (tk_3 _ (List.mem_of_getElem? (i := 133) rfl)) rfl
theorem wm_515 : (Cond.instanceMethod yX10_isHolding) ∈ sy_W := sy_W_of (tk_3 _ (List.mem_of_getElem? (i := 134) rfl)) rfl
theorem wm_516 : (Cond.selects RX10 yX10_isHolding yX10_isHolding) ∈ sy_W := sy_W_of (tk_3 _ (List.mem_of_getElem? (i := 135) rfl)) rfl
theorem wm_517 : (Cond.code yX10_isHolding cX10_isHolding 2 (some .boolean)) ∈ sy_W := sy_W_of (tk_3 _ (List.mem_of_getElem? (i := 136) rfl)) rfl
theorem wm_518 : (Cond.methodLink RX10 121 yX10_bear) ∈ sy_W := sy_W_of (tk_3 _ (List.mem_of_getElem? (i := 137) rfl)) rfl
theorem wm_519 : (Cond.instanceMethod yX10_bear) ∈ sy_W := sy_W_of (tk_3 _ (List.mem_of_getElem? (i := 139) rfl)) rfl
theorem wm_520 : (Cond.selects RX10 yX10_bear yX10_bear) ∈ sy_W := sy_W_of (tp_1 (yX10_bear, 11) (List.mem_of_getElem? (i := 13) rfl)) rfl
theorem wm_521 : (Cond.code yX10_bear cX10_bear 2 none) ∈ sy_W := sy_W_of (tk_3 _ (List.mem_of_getElem? (i := 140) rfl)) rfl
theorem wm_522 : (Cond.methodLink RX10 124 yX10_rest) ∈ sy_W := sy_W_of (tk_3 _ (List.mem_of_getElem? (i := 141) rfl)) rfl
theorem wm_523 : (Cond.instanceMethod yX10_rest) ∈ sy_W := sy_W_of (tk_3 _ (List.mem_of_getElem? (i := 143) rfl)) rfl
theorem wm_524 : (Cond.selects RX10 yX10_rest yX10_rest) ∈ sy_W := sy_W_of (tp_1 (yX10_rest, 11) (List.mem_of_getElem? (i := 14) rfl)) rfl
theorem wm_525 : (Cond.code yX10_rest cX10_rest 2 none) ∈ sy_W := sy_W_of (tk_3 _ (List.mem_of_getElem? (i := 144) rfl)) rfl
theorem wm_526 : (Cond.methodLink RL 43 yX12_hour) ∈ sy_W := sy_W_of (tk_5 _ (List.mem_of_getElem? (i := 186) rfl)) rfl
theorem wm_527 : (Cond.instanceMethod yX12_hour) ∈ sy_W := sy_W_of (tk_5 _ (List.mem_of_getElem? (i := 187) rfl)) rfl
theorem wm_528 : (Cond.selects RX12 yX12_hour yX12_hour) ∈ sy_W := sy_W_of (tk_5 _ (List.mem_of_getElem? (i := 188) rfl)) rfl
theorem wm_529 : (Cond.code yX12_hour cX12_hour 3 (some .int)) ∈ sy_W := sy_W_of (tk_5 _ (List.mem_of_getElem? (i := 189) rfl)) rfl
theorem wm_530 : (Cond.constant RX12 184 (-1000000003)) ∈ sy_W := sy_W_of (tk_5 _ (List.mem_of_getElem? (i := 194) rfl)) rfl
theorem wm_531 : (Cond.methodLink RX12 181 yX12_isHere) ∈ sy_W := sy_W_of (tk_5 _ (List.mem_of_getElem? (i := 190) rfl)) rfl
theorem wm_532 : (Cond.instanceMethod yX12_isHere) ∈ sy_W := sy_W_of (tk_5 _ (List.mem_of_getElem? (i := 192) rfl)) rfl
theorem wm_533 : (Cond.selects RX12 yX12_isHere yX12_isHere) ∈ sy_W := sy_W_of (tp_3 (yX12_isHere, 35) (List.mem_of_getElem? (i := 11) rfl)) rfl
theorem wm_534 : (Cond.code yX12_isHere cX12_isHere 1 (some .boolean)) ∈ sy_W := sy_W_of (tk_5 _ (List.mem_of_getElem? (i := 193) rfl)) rfl
theorem wm_535 : (Cond.methodLink RX12 185 yX12_note) ∈ sy_W := sy_W_of (tk_5 _ (List.mem_of_getElem? (i := 195) rfl)) rfl
theorem wm_536 : (Cond.instanceMethod yX12_note) ∈ sy_W := sy_W_of (tk_5 _ (List.mem_of_getElem? (i := 197) rfl)) rfl
theorem wm_537 : (Cond.selects RX12 yX12_note yX12_note) ∈ sy_W := sy_W_of (tp_3 (yX12_note, 35) (List.mem_of_getElem? (i := 12) rfl)) rfl
theorem wm_538 : (Cond.code yX12_note cX12_note 2 none) ∈ sy_W := sy_W_of (tk_5 _ (List.mem_of_getElem? (i := 198) rfl)) rfl
theorem wm_539 : (Cond.methodLink RX12 173 yX12_copy) ∈ sy_W := sy_W_of (tk_5 _ (List.mem_of_getElem? (i := 199) rfl)) rfl
theorem wm_540 : (Cond.static yX12_copy) ∈ sy_W := sy_W_of (tk_5 _ (List.mem_of_getElem? (i := 200) rfl)) rfl
theorem wm_541 : (Cond.code yX12_copy cX12_copy 5 none) ∈ sy_W := sy_W_of (tk_5 _ (List.mem_of_getElem? (i := 201) rfl)) rfl
theorem wm_542 : (Cond.methodLink RX12 188 yX12_pass) ∈ sy_W := sy_W_of (tk_5 _ (List.mem_of_getElem? (i := 202) rfl)) rfl
theorem wm_543 : (Cond.instanceMethod yX12_pass) ∈ sy_W := sy_W_of (tk_5 _ (List.mem_of_getElem? (i := 204) rfl)) rfl
theorem wm_544 : (Cond.selects RX12 yX12_pass yX12_pass) ∈ sy_W := sy_W_of (tp_3 (yX12_pass, 35) (List.mem_of_getElem? (i := 13) rfl)) rfl
theorem wm_545 : (Cond.code yX12_pass cX12_pass 6 none) ∈ sy_W := sy_W_of (tk_5 _ (List.mem_of_getElem? (i := 205) rfl)) rfl
theorem wm_546 : (Cond.constant RX12 172 (999999999)) ∈ sy_W := sy_W_of (tk_5 _ (List.mem_of_getElem? (i := 206) rfl)) rfl
theorem wm_547 : (Cond.methodLink RL 44 yX11_offer) ∈ sy_W := sy_W_of (tk_3 _ (List.mem_of_getElem? (i := 145) rfl)) rfl
theorem wm_548 : (Cond.instanceMethod yX11_offer) ∈ sy_W := sy_W_of (tk_3 _ (List.mem_of_getElem? (i := 146) rfl)) rfl
theorem wm_549 : (Cond.selects RX11 yX11_offer yX11_offer) ∈ sy_W := sy_W_of (tk_3 _ (List.mem_of_getElem? (i := 147) rfl)) rfl
theorem wm_550 : (Cond.code yX11_offer cX11_offer 3 (some .int)) ∈ sy_W := sy_W_of (tk_3 _ (List.mem_of_getElem? (i := 148) rfl)) rfl
theorem wm_551 : (Cond.methodLink RX11 228 yX10_isHolding) ∈ sy_W := sy_W_of (tk_3 _ (List.mem_of_getElem? (i := 149) rfl)) rfl
theorem wm_552 : (Cond.methodLink RX11 231 yX10_trick) ∈ sy_W := sy_W_of (tk_3 _ (List.mem_of_getElem? (i := 150) rfl)) rfl
theorem wm_553 : (Cond.instanceMethod yX10_trick) ∈ sy_W := sy_W_of (tk_3 _ (List.mem_of_getElem? (i := 151) rfl)) rfl
theorem wm_554 : (Cond.selects RX10 yX10_trick yX10_trick) ∈ sy_W := sy_W_of (tk_3 _ (List.mem_of_getElem? (i := 152) rfl)) rfl
theorem wm_555 : (Cond.code yX10_trick cX10_trick 3 (some .boolean)) ∈ sy_W := sy_W_of (tk_3 _ (List.mem_of_getElem? (i := 153) rfl)) rfl
theorem wm_556 : (Cond.methodLink RX10 81 yX10_isTrickedBy) ∈ sy_W := sy_W_of (tk_3 _ (List.mem_of_getElem? (i := 154) rfl)) rfl
theorem wm_557 : (Cond.instanceMethod yX10_isTrickedBy) ∈ sy_W := sy_W_of (tk_3 _ (List.mem_of_getElem? (i := 155) rfl)) rfl
theorem wm_558 : (Cond.selects RX10 yX10_isTrickedBy yX10_isTrickedBy) ∈ sy_W := sy_W_of (tk_3 _ (List.mem_of_getElem? (i := 156) rfl)) rfl
theorem wm_559 : (Cond.code yX10_isTrickedBy cX10_isTrickedBy 3 (some .boolean)) ∈ sy_W := sy_W_of (tk_3 _ (List.mem_of_getElem? (i := 157) rfl)) rfl
theorem wm_560 : (Cond.fieldLink RX10 75 "SkyTurns$Edge" "goodness" "[I") ∈ sy_W := sy_W_of (tk_1 _ (List.mem_of_getElem? (i := 55) rfl)) rfl
theorem wm_561 : (Cond.fieldLink RX10 78 "SkyTurns$Edge" "wits" "[I") ∈ sy_W := sy_W_of (tk_1 _ (List.mem_of_getElem? (i := 49) rfl)) rfl
theorem wm_562 : (Cond.methodLink RX10 84 yX10_handTo) ∈ sy_W := sy_W_of (tk_3 _ (List.mem_of_getElem? (i := 159) rfl)) rfl
theorem wm_563 : (Cond.instanceMethod yX10_handTo) ∈ sy_W := sy_W_of (tk_3 _ (List.mem_of_getElem? (i := 160) rfl)) rfl
theorem wm_564 : (Cond.selects RX10 yX10_handTo yX10_handTo) ∈ sy_W := sy_W_of (tk_3 _ (List.mem_of_getElem? (i := 161) rfl)) rfl
theorem wm_565 : (Cond.code yX10_handTo cX10_handTo 2 none) ∈ sy_W := sy_W_of (tk_3 _ (List.mem_of_getElem? (i := 162) rfl)) rfl
theorem wm_566 : (Cond.methodLink RL 47 yX12_offer) ∈ sy_W := sy_W_of (tk_5 _ (List.mem_of_getElem? (i := 207) rfl)) rfl
theorem wm_567 : (Cond.instanceMethod yX12_offer) ∈ sy_W := sy_W_of (tk_5 _ (List.mem_of_getElem? (i := 208) rfl)) rfl
theorem wm_568 : (Cond.selects RX12 yX12_offer yX12_offer) ∈ sy_W := sy_W_of (tk_5 _ (List.mem_of_getElem? (i := 209) rfl)) rfl
theorem wm_569 : (Cond.code yX12_offer cX12_offer 3 (some .int)) ∈ sy_W := sy_W_of (tk_5 _ (List.mem_of_getElem? (i := 210) rfl)) rfl
theorem wm_570 : (Cond.methodLink RX12 199 yX12_holds) ∈ sy_W := sy_W_of (tk_5 _ (List.mem_of_getElem? (i := 211) rfl)) rfl
theorem wm_571 : (Cond.static yX12_holds) ∈ sy_W := sy_W_of (tk_5 _ (List.mem_of_getElem? (i := 212) rfl)) rfl
theorem wm_572 : (Cond.code yX12_holds cX12_holds 2 (some .boolean)) ∈ sy_W := sy_W_of (tk_5 _ (List.mem_of_getElem? (i := 213) rfl)) rfl
theorem wm_573 : (Cond.methodLink RX12 203 yX12_offers) ∈ sy_W := sy_W_of (tk_5 _ (List.mem_of_getElem? (i := 214) rfl)) rfl
theorem wm_574 : (Cond.instanceMethod yX12_offers) ∈ sy_W := sy_W_of (tk_5 _ (List.mem_of_getElem? (i := 216) rfl)) rfl
theorem wm_575 : (Cond.selects RX12 yX12_offers yX12_offers) ∈ sy_W := sy_W_of (tp_3 (yX12_offers, 35) (List.mem_of_getElem? (i := 14) rfl)) rfl
theorem wm_576 : (Cond.code yX12_offers cX12_offers 4 (some .boolean)) ∈ sy_W := sy_W_of (tk_5 _ (List.mem_of_getElem? (i := 217) rfl)) rfl
theorem wm_577 : (Cond.methodLink RX12 195 yX12_falls) ∈ sy_W := sy_W_of (tk_5 _ (List.mem_of_getElem? (i := 218) rfl)) rfl
theorem wm_578 : (Cond.instanceMethod yX12_falls) ∈ sy_W := sy_W_of (tk_5 _ (List.mem_of_getElem? (i := 220) rfl)) rfl
theorem wm_579 : (Cond.selects RX12 yX12_falls yX12_falls) ∈ sy_W := sy_W_of (tp_3 (yX12_falls, 35) (List.mem_of_getElem? (i := 15) rfl)) rfl
theorem wm_580 : (Cond.code yX12_falls cX12_falls 4 (some .boolean)) ∈ sy_W := sy_W_of (tk_5 _ (List.mem_of_getElem? (i := 221) rfl)) rfl
theorem wm_581 : (Cond.methodLink RX12 192 yX12_has) ∈ sy_W := sy_W_of (tk_5 _ (List.mem_of_getElem? (i := 222) rfl)) rfl
theorem wm_582 : (Cond.static yX12_has) ∈ sy_W := sy_W_of (tk_5 _ (List.mem_of_getElem? (i := 223) rfl)) rfl
theorem wm_583 : (Cond.code yX12_has cX12_has 2 (some .boolean)) ∈ sy_W := sy_W_of (tk_5 _ (List.mem_of_getElem? (i := 224) rfl)) rfl
theorem wm_584 : (Cond.methodLink RL 48 yX11_take) ∈ sy_W := sy_W_of (tk_3 _ (List.mem_of_getElem? (i := 163) rfl)) rfl
theorem wm_585 : (Cond.instanceMethod yX11_take) ∈ sy_W := sy_W_of (tk_3 _ (List.mem_of_getElem? (i := 164) rfl)) rfl
theorem wm_586 : (Cond.selects RX11 yX11_take yX11_take) ∈ sy_W := sy_W_of (tk_3 _ (List.mem_of_getElem? (i := 165) rfl)) rfl
theorem wm_587 : (Cond.code yX11_take cX11_take 2 (some .int)) ∈ sy_W := sy_W_of (tk_3 _ (List.mem_of_getElem? (i := 166) rfl)) rfl
theorem wm_588 : (Cond.methodLink RX11 235 yX10_isFatherHolding) ∈ sy_W := sy_W_of (tk_3 _ (List.mem_of_getElem? (i := 167) rfl)) rfl
theorem wm_589 : (Cond.instanceMethod yX10_isFatherHolding) ∈ sy_W := sy_W_of (tk_3 _ (List.mem_of_getElem? (i := 168) rfl)) rfl
theorem wm_590 : (Cond.selects RX10 yX10_isFatherHolding yX10_isFatherHolding) ∈ sy_W := sy_W_of (tk_3 _ (List.mem_of_getElem? (i := 169) rfl)) rfl
theorem wm_591 : (Cond.code yX10_isFatherHolding cX10_isFatherHolding 2 (some .boolean)) ∈ sy_W := sy_W_of (tk_3 _ (List.mem_of_getElem? (i := 170) rfl)) rfl
theorem wm_592 : (Cond.methodLink RX10 64 yX3_isSon) ∈ sy_W := sy_W_of (tk_3 _ (List.mem_of_getElem? (i := 171) rfl)) rfl
theorem wm_593 : (Cond.instanceMethod yX3_isSon) ∈ sy_W := sy_W_of (tk_3 _ (List.mem_of_getElem? (i := 172) rfl)) rfl
theorem wm_594 : (Cond.selects RX3 yX3_isSon yX3_isSon) ∈ sy_W := sy_W_of (tk_3 _ (List.mem_of_getElem? (i := 173) rfl)) rfl
theorem wm_595 : (Cond.code yX3_isSon cX3_isSon 3 (some .boolean)) ∈ sy_W := sy_W_of (tk_3 _ (List.mem_of_getElem? (i := 174) rfl)) rfl
theorem wm_596 : (Cond.methodLink RX3 56 yX3_isPerson) ∈ sy_W := sy_W_of (tk_3 _ (List.mem_of_getElem? (i := 175) rfl)) rfl
theorem wm_597 : (Cond.methodLink RX11 238 yX10_handTo) ∈ sy_W := sy_W_of (tk_3 _ (List.mem_of_getElem? (i := 176) rfl)) rfl
theorem wm_598 : (Cond.methodLink RL 51 yX12_take) ∈ sy_W := sy_W_of (tk_5 _ (List.mem_of_getElem? (i := 225) rfl)) rfl
theorem wm_599 : (Cond.instanceMethod yX12_take) ∈ sy_W := sy_W_of (tk_5 _ (List.mem_of_getElem? (i := 226) rfl)) rfl
theorem wm_600 : (Cond.selects RX12 yX12_take yX12_take) ∈ sy_W := sy_W_of (tk_5 _ (List.mem_of_getElem? (i := 227) rfl)) rfl
theorem wm_601 : (Cond.code yX12_take cX12_take 2 (some .int)) ∈ sy_W := sy_W_of (tk_5 _ (List.mem_of_getElem? (i := 228) rfl)) rfl
theorem wm_602 : (Cond.methodLink RX12 209 yX12_isSonOfWhoHolds) ∈ sy_W := sy_W_of (tk_5 _ (List.mem_of_getElem? (i := 229) rfl)) rfl
theorem wm_603 : (Cond.instanceMethod yX12_isSonOfWhoHolds) ∈ sy_W := sy_W_of (tk_5 _ (List.mem_of_getElem? (i := 231) rfl)) rfl
theorem wm_604 : (Cond.selects RX12 yX12_isSonOfWhoHolds yX12_isSonOfWhoHolds) ∈ sy_W := sy_W_of (tp_4 (yX12_isSonOfWhoHolds, 35) (List.mem_of_getElem? (i := 0) rfl)) rfl
theorem wm_605 : (Cond.code yX12_isSonOfWhoHolds cX12_isSonOfWhoHolds 2 (some .boolean)) ∈ sy_W := sy_W_of (tk_5 _ (List.mem_of_getElem? (i := 232) rfl)) rfl
theorem wm_606 : (Cond.methodLink RX12 206 yX12_fatherOf) ∈ sy_W := sy_W_of (tk_5 _ (List.mem_of_getElem? (i := 233) rfl)) rfl
theorem wm_607 : (Cond.instanceMethod yX12_fatherOf) ∈ sy_W := sy_W_of (tk_5 _ (List.mem_of_getElem? (i := 235) rfl)) rfl
theorem wm_608 : (Cond.selects RX12 yX12_fatherOf yX12_fatherOf) ∈ sy_W := sy_W_of (tp_4 (yX12_fatherOf, 35) (List.mem_of_getElem? (i := 1) rfl)) rfl
theorem wm_609 : (Cond.code yX12_fatherOf cX12_fatherOf 2 (some .int)) ∈ sy_W := sy_W_of (tk_5 _ (List.mem_of_getElem? (i := 236) rfl)) rfl
theorem wm_610 : (Cond.methodLink RX12 212 yX12_takesIt) ∈ sy_W := sy_W_of (tk_5 _ (List.mem_of_getElem? (i := 237) rfl)) rfl
theorem wm_611 : (Cond.instanceMethod yX12_takesIt) ∈ sy_W := sy_W_of (tk_5 _ (List.mem_of_getElem? (i := 239) rfl)) rfl
theorem wm_612 : (Cond.selects RX12 yX12_takesIt yX12_takesIt) ∈ sy_W := sy_W_of (tp_4 (yX12_takesIt, 35) (List.mem_of_getElem? (i := 2) rfl)) rfl
theorem wm_613 : (Cond.code yX12_takesIt cX12_takesIt 2 none) ∈ sy_W := sy_W_of (tk_6 _ (List.mem_of_getElem? (i := 0) rfl)) rfl
theorem wm_614 : (Cond.methodLink RL 52 yX11_join) ∈ sy_W := sy_W_of (tk_3 _ (List.mem_of_getElem? (i := 177) rfl)) rfl
theorem wm_615 : (Cond.instanceMethod yX11_join) ∈ sy_W := sy_W_of (tk_3 _ (List.mem_of_getElem? (i := 178) rfl)) rfl
theorem wm_616 : (Cond.selects RX11 yX11_join yX11_join) ∈ sy_W := sy_W_of (tk_3 _ (List.mem_of_getElem? (i := 179) rfl)) rfl
theorem wm_617 : (Cond.code yX11_join cX11_join 2 (some .int)) ∈ sy_W := sy_W_of (tk_3 _ (List.mem_of_getElem? (i := 180) rfl)) rfl
theorem wm_618 : (Cond.methodLink RX11 242 yX3_areLevel) ∈ sy_W := sy_W_of (tk_3 _ (List.mem_of_getElem? (i := 181) rfl)) rfl
theorem wm_619 : (Cond.instanceMethod yX3_areLevel) ∈ sy_W := sy_W_of (tk_3 _ (List.mem_of_getElem? (i := 182) rfl)) rfl
theorem wm_620 : (Cond.selects RX3 yX3_areLevel yX3_areLevel) ∈ sy_W := sy_W_of (tk_3 _ (List.mem_of_getElem? (i := 183) rfl)) rfl
theorem wm_621 : (Cond.code yX3_areLevel cX3_areLevel 3 (some .boolean)) ∈ sy_W := sy_W_of (tk_3 _ (List.mem_of_getElem? (i := 184) rfl)) rfl
theorem wm_622 : (Cond.methodLink RX3 60 Lib.Math.abs.name) ∈ sy_W := sy_W_of (tk_3 _ (List.mem_of_getElem? (i := 185) rfl)) rfl
theorem wm_623 : (Cond.static Lib.Math.abs.name) ∈ sy_W := sy_W_of (tk_3 _ (List.mem_of_getElem? (i := 186) rfl)) rfl
theorem wm_624 : (Cond.code Lib.Math.abs.name Lib.Math.abs.code 1 (some .int)) ∈ sy_W := sy_W_of (tk_3 _ (List.mem_of_getElem? (i := 187) rfl)) rfl
theorem wm_625 : (Cond.methodLink RL 55 yX12_join) ∈ sy_W := sy_W_of (tk_6 _ (List.mem_of_getElem? (i := 1) rfl)) rfl
theorem wm_626 : (Cond.instanceMethod yX12_join) ∈ sy_W := sy_W_of (tk_6 _ (List.mem_of_getElem? (i := 2) rfl)) rfl
theorem wm_627 : (Cond.selects RX12 yX12_join yX12_join) ∈ sy_W := sy_W_of (tk_6 _ (List.mem_of_getElem? (i := 3) rfl)) rfl
theorem wm_628 : (Cond.code yX12_join cX12_join 2 (some .int)) ∈ sy_W := sy_W_of (tk_6 _ (List.mem_of_getElem? (i := 4) rfl)) rfl
theorem wm_629 : (Cond.methodLink RX12 216 yX12_areLevel) ∈ sy_W := sy_W_of (tk_6 _ (List.mem_of_getElem? (i := 5) rfl)) rfl
theorem wm_630 : (Cond.instanceMethod yX12_areLevel) ∈ sy_W := sy_W_of (tk_6 _ (List.mem_of_getElem? (i := 7) rfl)) rfl
theorem wm_631 : (Cond.selects RX12 yX12_areLevel yX12_areLevel) ∈ sy_W := sy_W_of (tp_4 (yX12_areLevel, 35) (List.mem_of_getElem? (i := 3) rfl)) rfl
theorem wm_632 : (Cond.code yX12_areLevel cX12_areLevel 4 (some .boolean)) ∈ sy_W := sy_W_of (tk_6 _ (List.mem_of_getElem? (i := 8) rfl)) rfl
theorem wm_633 : (Cond.methodLink RL 56 yX11_fruit) ∈ sy_W := sy_W_of (tk_3 _ (List.mem_of_getElem? (i := 188) rfl)) rfl
theorem wm_634 : (Cond.instanceMethod yX11_fruit) ∈ sy_W := sy_W_of (tk_3 _ (List.mem_of_getElem? (i := 189) rfl)) rfl
theorem wm_635 : (Cond.selects RX11 yX11_fruit yX11_fruit) ∈ sy_W := sy_W_of (tk_3 _ (List.mem_of_getElem? (i := 190) rfl)) rfl
theorem wm_636 : (Cond.code yX11_fruit cX11_fruit 2 (some .int)) ∈ sy_W := sy_W_of (tk_3 _ (List.mem_of_getElem? (i := 191) rfl)) rfl
theorem wm_637 : (Cond.methodLink RX11 245 Lib.Math.min.name) ∈ sy_W := sy_W_of (tk_3 _ (List.mem_of_getElem? (i := 192) rfl)) rfl
theorem wm_638 : (Cond.methodLink RL 59 yX12_fruit) ∈ sy_W := sy_W_of (tk_6 _ (List.mem_of_getElem? (i := 9) rfl)) rfl
theorem wm_639 : (Cond.instanceMethod yX12_fruit) ∈ sy_W := sy_W_of (tk_6 _ (List.mem_of_getElem? (i := 10) rfl)) rfl
theorem wm_640 : (Cond.selects RX12 yX12_fruit yX12_fruit) ∈ sy_W := sy_W_of (tk_6 _ (List.mem_of_getElem? (i := 11) rfl)) rfl
theorem wm_641 : (Cond.code yX12_fruit cX12_fruit 2 (some .int)) ∈ sy_W := sy_W_of (tk_6 _ (List.mem_of_getElem? (i := 12) rfl)) rfl
theorem wm_642 : (Cond.methodLink RL 60 yX11_drift) ∈ sy_W := sy_W_of (tk_3 _ (List.mem_of_getElem? (i := 193) rfl)) rfl
theorem wm_643 : (Cond.instanceMethod yX11_drift) ∈ sy_W := sy_W_of (tk_3 _ (List.mem_of_getElem? (i := 194) rfl)) rfl
theorem wm_644 : (Cond.selects RX11 yX11_drift yX11_drift) ∈ sy_W := sy_W_of (tk_3 _ (List.mem_of_getElem? (i := 195) rfl)) rfl
theorem wm_645 : (Cond.code yX11_drift cX11_drift 4 (some .int)) ∈ sy_W := sy_W_of (tk_3 _ (List.mem_of_getElem? (i := 196) rfl)) rfl
theorem wm_646 : (Cond.methodLink RX11 251 yX11_passByDraw) ∈ sy_W := sy_W_of (tk_3 _ (List.mem_of_getElem? (i := 197) rfl)) rfl
theorem wm_647 : (Cond.instanceMethod yX11_passByDraw) ∈ sy_W := sy_W_of (tk_3 _ (List.mem_of_getElem? (i := 199) rfl)) rfl
theorem wm_648 : (Cond.selects RX11 yX11_passByDraw yX11_passByDraw) ∈ sy_W := sy_W_of (tp_1 (yX11_passByDraw, 16) (List.mem_of_getElem? (i := 15) rfl)) rfl
theorem wm_649 : (Cond.code yX11_passByDraw cX11_passByDraw 2 none) ∈ sy_W := sy_W_of (tk_3 _ (List.mem_of_getElem? (i := 200) rfl)) rfl
theorem wm_650 : (Cond.methodLink RX11 336 yX11_draw) ∈ sy_W := sy_W_of (tk_3 _ (List.mem_of_getElem? (i := 201) rfl)) rfl
theorem wm_651 : (Cond.instanceMethod yX11_draw) ∈ sy_W := sy_W_of (tk_3 _ (List.mem_of_getElem? (i := 203) rfl)) rfl
theorem wm_652 : (Cond.selects RX11 yX11_draw yX11_draw) ∈ sy_W := sy_W_of (tp_2 (yX11_draw, 16) (List.mem_of_getElem? (i := 0) rfl)) rfl
theorem wm_653 : (Cond.code yX11_draw cX11_draw 2 (some .int)) ∈ sy_W := sy_W_of (tk_3 _ (List.mem_of_getElem? (i := 204) rfl)) rfl
theorem wm_654 : (Cond.constantLong RX11 339 (1103515245)) ∈ sy_W := sy_W_of (tk_3 _ (List.mem_of_getElem? (i := 205) rfl)) rfl
theorem wm_655 : (Cond.constantLong RX11 341 (12345)) ∈ sy_W := sy_W_of (tk_3 _ (List.mem_of_getElem? (i := 206) rfl)) rfl
theorem wm_656 : (Cond.constantLong RX11 343 (2147483647)) ∈ sy_W := sy_W_of (tk_3 _ (List.mem_of_getElem? (i := 207) rfl)) rfl
theorem wm_657 : (Cond.constant RX11 345 (65536)) ∈ sy_W := sy_W_of (tk_3 _ (List.mem_of_getElem? (i := 208) rfl)) rfl
theorem wm_658 : (Cond.methodLink RL 63 yX12_drift) ∈ sy_W := sy_W_of (tk_6 _ (List.mem_of_getElem? (i := 13) rfl)) rfl
theorem wm_659 : (Cond.instanceMethod yX12_drift) ∈ sy_W := sy_W_of (tk_6 _ (List.mem_of_getElem? (i := 14) rfl)) rfl
theorem wm_660 : (Cond.selects RX12 yX12_drift yX12_drift) ∈ sy_W := sy_W_of (tk_6 _ (List.mem_of_getElem? (i := 15) rfl)) rfl
theorem wm_661 : (Cond.code yX12_drift cX12_drift 6 (some .int)) ∈ sy_W := sy_W_of (tk_6 _ (List.mem_of_getElem? (i := 16) rfl)) rfl
theorem wm_662 : (Cond.methodLink RX12 226 yX12_draw) ∈ sy_W := sy_W_of (tk_6 _ (List.mem_of_getElem? (i := 17) rfl)) rfl
theorem wm_663 : (Cond.instanceMethod yX12_draw) ∈ sy_W := sy_W_of (tk_6 _ (List.mem_of_getElem? (i := 19) rfl)) rfl
theorem wm_664 : (Cond.selects RX12 yX12_draw yX12_draw) ∈ sy_W := sy_W_of (tp_4 (yX12_draw, 35) (List.mem_of_getElem? (i := 4) rfl)) rfl
theorem wm_665 : (Cond.code yX12_draw cX12_draw 2 (some .int)) ∈ sy_W := sy_W_of (tk_6 _ (List.mem_of_getElem? (i := 20) rfl)) rfl
theorem wm_666 : (Cond.constantLong RX12 219 (1103515245)) ∈ sy_W := sy_W_of (tk_6 _ (List.mem_of_getElem? (i := 21) rfl)) rfl
theorem wm_667 : (Cond.constantLong RX12 221 (12345)) ∈ sy_W := sy_W_of (tk_6 _ (List.mem_of_getElem? (i := 22) rfl)) rfl
theorem wm_668 : (Cond.constantLong RX12 223 (2147483648)) ∈ sy_W := sy_W_of (tk_6 _ (List.mem_of_getElem? (i := 23) rfl)) rfl
theorem wm_669 : (Cond.constant RX12 225 (65536)) ∈ sy_W := sy_W_of (tk_6 _ (List.mem_of_getElem? (i := 24) rfl)) rfl
theorem wm_670 : (Cond.methodLink RL 64 yX11_undo) ∈ sy_W := sy_W_of (tk_3 _ (List.mem_of_getElem? (i := 209) rfl)) rfl
theorem wm_671 : (Cond.instanceMethod yX11_undo) ∈ sy_W := sy_W_of (tk_3 _ (List.mem_of_getElem? (i := 210) rfl)) rfl
theorem wm_672 : (Cond.selects RX11 yX11_undo yX11_undo) ∈ sy_W := sy_W_of (tk_3 _ (List.mem_of_getElem? (i := 211) rfl)) rfl
theorem wm_673 : (Cond.code yX11_undo cX11_undo 2 (some .int)) ∈ sy_W := sy_W_of (tk_3 _ (List.mem_of_getElem? (i := 212) rfl)) rfl
theorem wm_674 : (Cond.methodLink RX11 254 yX5_takeBack) ∈ sy_W := sy_W_of (tk_3 _ (List.mem_of_getElem? (i := 213) rfl)) rfl
theorem wm_675 : (Cond.instanceMethod yX5_takeBack) ∈ sy_W := sy_W_of (tk_3 _ (List.mem_of_getElem? (i := 214) rfl)) rfl
theorem wm_676 : (Cond.selects RX5 yX5_takeBack yX5_takeBack) ∈ sy_W := sy_W_of (tk_3 _ (List.mem_of_getElem? (i := 215) rfl)) rfl
theorem wm_677 : (Cond.code yX5_takeBack cX5_takeBack 3 none) ∈ sy_W := sy_W_of (tk_3 _ (List.mem_of_getElem? (i := 216) rfl)) rfl
theorem wm_678 : (Cond.methodLink RL 67 yX12_undo) ∈ sy_W := sy_W_of (tk_6 _ (List.mem_of_getElem? (i := 25) rfl)) rfl
theorem wm_679 : (Cond.instanceMethod yX12_undo) ∈ sy_W := sy_W_of (tk_6 _ (List.mem_of_getElem? (i := 26) rfl)) rfl
theorem wm_680 : (Cond.selects RX12 yX12_undo yX12_undo) ∈ sy_W := sy_W_of (tk_6 _ (List.mem_of_getElem? (i := 27) rfl)) rfl
theorem wm_681 : (Cond.code yX12_undo cX12_undo 3 (some .int)) ∈ sy_W := sy_W_of (tk_6 _ (List.mem_of_getElem? (i := 28) rfl)) rfl
theorem wm_682 : (Cond.methodLink RL 68 yX11_shifts) ∈ sy_W := sy_W_of (tk_3 _ (List.mem_of_getElem? (i := 217) rfl)) rfl
theorem wm_683 : (Cond.instanceMethod yX11_shifts) ∈ sy_W := sy_W_of (tk_3 _ (List.mem_of_getElem? (i := 218) rfl)) rfl
theorem wm_684 : (Cond.selects RX11 yX11_shifts yX11_shifts) ∈ sy_W := sy_W_of (tk_3 _ (List.mem_of_getElem? (i := 219) rfl)) rfl
theorem wm_685 : (Cond.code yX11_shifts cX11_shifts 4 (some .int)) ∈ sy_W := sy_W_of (tk_3 _ (List.mem_of_getElem? (i := 220) rfl)) rfl
theorem wm_686 : (Cond.methodLink RX11 258 yX11_isNoTrial) ∈ sy_W := sy_W_of (tk_3 _ (List.mem_of_getElem? (i := 221) rfl)) rfl
theorem wm_687 : (Cond.static yX11_isNoTrial) ∈ sy_W := sy_W_of (tk_3 _ (List.mem_of_getElem? (i := 222) rfl)) rfl
theorem wm_688 : (Cond.code yX11_isNoTrial cX11_isNoTrial 2 (some .boolean)) ∈ sy_W := sy_W_of (tk_3 _ (List.mem_of_getElem? (i := 223) rfl)) rfl
theorem wm_689 : (Cond.methodLink RX11 261 yX9_find) ∈ sy_W := sy_W_of (tk_3 _ (List.mem_of_getElem? (i := 224) rfl)) rfl
theorem wm_690 : (Cond.instanceMethod yX9_find) ∈ sy_W := sy_W_of (tk_3 _ (List.mem_of_getElem? (i := 225) rfl)) rfl
theorem wm_691 : (Cond.selects RX9 yX9_find yX9_find) ∈ sy_W := sy_W_of (tk_3 _ (List.mem_of_getElem? (i := 226) rfl)) rfl
theorem wm_692 : (Cond.code yX9_find cX9_find 4 none) ∈ sy_W := sy_W_of (tk_3 _ (List.mem_of_getElem? (i := 227) rfl)) rfl
theorem wm_693 : (Cond.fieldLink RX9 15 "SkyTurns$ShiftRows" "limit" "I") ∈ sy_W := sy_W_of (tk_1 _ (List.mem_of_getElem? (i := 218) rfl)) rfl
theorem wm_694 : (Cond.fieldLink RX9 19 "SkyTurns$ShiftRows" "best" "I") ∈ sy_W := sy_W_of (tk_1 _ (List.mem_of_getElem? (i := 216) rfl)) rfl
theorem wm_695 : (Cond.fieldLink RX9 22 "SkyTurns$ShiftRows" "deepest" "I") ∈ sy_W := sy_W_of (tk_1 _ (List.mem_of_getElem? (i := 217) rfl)) rfl
theorem wm_696 : (Cond.methodLink RX9 25 ⟨"SkyTurns$ShiftRows", "tryRows", "(LSkyTurns$Sky;I)V"⟩) ∈ sy_W := sy_W_of (tk_3 _ (List.mem_of_getElem? (i := 228) rfl)) rfl
theorem wm_697 : (Cond.sameMethod "SkyTurns$ShiftRows" "SkyTurns$Rows" "tryRows" "(LSkyTurns$Sky;I)V") ∈ sy_W := sy_W_of (tk_3 _ (List.mem_of_getElem? (i := 229) rfl)) rfl
theorem wm_698 : (Cond.selects RX9 ⟨"SkyTurns$ShiftRows", "tryRows", "(LSkyTurns$Sky;I)V"⟩ yX7_tryRows) ∈ sy_W := sy_W_of (tk_3 _ (List.mem_of_getElem? (i := 231) rfl)) rfl
theorem wm_699 : (Cond.instanceMethod yX7_tryRows) ∈ sy_W := sy_W_of (tk_3 _ (List.mem_of_getElem? (i := 232) rfl)) rfl
theorem wm_700 : (Cond.code yX7_tryRows cX7_tryRows 4 none) ∈ sy_W := sy_W_of (tk_3 _ (List.mem_of_getElem? (i := 233) rfl)) rfl
theorem wm_701 : (Cond.methodLink RX7 26 Lib.Math.min.name) ∈ sy_W := sy_W_of (tk_3 _ (List.mem_of_getElem? (i := 234) rfl)) rfl
theorem wm_702 : (Cond.fieldLink RX7 32 "SkyTurns$Rows" "hours" "I") ∈ sy_W := sy_W_of (tk_1 _ (List.mem_of_getElem? (i := 231) rfl)) rfl
theorem wm_703 : (Cond.methodLink RX7 36 yX10_copyFrom) ∈ sy_W := sy_W_of (tk_3 _ (List.mem_of_getElem? (i := 235) rfl)) rfl
theorem wm_704 : (Cond.methodLink RX7 42 ⟨"SkyTurns$Rows", "goOn", "(I)V"⟩) ∈ sy_W := sy_W_of (tk_3 _ (List.mem_of_getElem? (i := 236) rfl)) rfl
theorem wm_705 : (Cond.sameMethod "SkyTurns$Rows" "SkyTurns$Rows" "goOn" "(I)V") ∈ sy_W := sy_W_of (tk_6 _ (List.mem_of_getElem? (i := 136) rfl)) rfl
theorem wm_706 : (Cond.selects RX8 ⟨"SkyTurns$Rows", "goOn", "(I)V"⟩ yX7_goOn) ∈ sy_W := sy_W_os (List.mem_of_getElem? (i := 0) rfl) rfl
theorem wm_707 : (Cond.instanceMethod yX7_goOn) ∈ sy_W := sy_W_of (tk_3 _ (List.mem_of_getElem? (i := 238) rfl)) rfl
theorem wm_708 : (Cond.code yX7_goOn cX7_goOn 4 none) ∈ sy_W := sy_W_of (tk_3 _ (List.mem_of_getElem? (i := 239) rfl)) rfl
theorem wm_709 : (Cond.fieldLink RX7 49 "SkyTurns$Edge" "people" "I") ∈ sy_W := sy_W_of (tk_1 _ (List.mem_of_getElem? (i := 64) rfl)) rfl
theorem wm_710 : (Cond.methodLink RX7 46 ⟨"SkyTurns$Rows", "endRow", "()V"⟩) ∈ sy_W := sy_W_of (tk_4 _ (List.mem_of_getElem? (i := 0) rfl)) rfl
theorem wm_711 : (Cond.sameMethod "SkyTurns$Rows" "SkyTurns$Rows" "endRow" "()V") ∈ sy_W := sy_W_of (tk_4 _ (List.mem_of_getElem? (i := 2) rfl)) rfl
theorem wm_712 : (Cond.selects RX8 ⟨"SkyTurns$Rows", "endRow", "()V"⟩ yX8_endRow) ∈ sy_W := sy_W_of (tk_4 _ (List.mem_of_getElem? (i := 3) rfl)) rfl
theorem wm_713 : (Cond.instanceMethod yX8_endRow) ∈ sy_W := sy_W_of (tk_4 _ (List.mem_of_getElem? (i := 4) rfl)) rfl
theorem wm_714 : (Cond.code yX8_endRow cX8_endRow 3 none) ∈ sy_W := sy_W_of (tk_4 _ (List.mem_of_getElem? (i := 5) rfl)) rfl
theorem wm_715 : (Cond.fieldLink RX8 32 "SkyTurns$SeenRows" "hoursOf" "[I") ∈ sy_W := sy_W_of (tk_1 _ (List.mem_of_getElem? (i := 229) rfl)) rfl
theorem wm_716 : (Cond.sameField "SkyTurns$SeenRows" "SkyTurns$Rows" "hoursOf" "[I") ∈ sy_W := sy_W_of (tk_1 _ (List.mem_of_getElem? (i := 230) rfl)) rfl
theorem wm_717 : (Cond.fieldLink RX8 22 "SkyTurns$SeenRows" "count" "I") ∈ sy_W := sy_W_of (tk_2 _ (List.mem_of_getElem? (i := 26) rfl)) rfl
theorem wm_718 : (Cond.fieldLink RX8 25 "SkyTurns$SeenRows" "common" "I") ∈ sy_W := sy_W_of (tk_2 _ (List.mem_of_getElem? (i := 28) rfl)) rfl
theorem wm_719 : (Cond.fieldLink RX8 35 "SkyTurns$SeenRows" "row" "[I") ∈ sy_W := sy_W_of (tk_1 _ (List.mem_of_getElem? (i := 224) rfl)) rfl
theorem wm_720 : (Cond.sameField "SkyTurns$SeenRows" "SkyTurns$Rows" "row" "[I") ∈ sy_W := sy_W_of (tk_1 _ (List.mem_of_getElem? (i := 225) rfl)) rfl
theorem wm_721 : (Cond.methodLink RX8 38 arraycopyName) ∈ sy_W := sy_W_of (tk_4 _ (List.mem_of_getElem? (i := 6) rfl)) rfl
theorem wm_722 : (Cond.selects RX9 ⟨"SkyTurns$Rows", "endRow", "()V"⟩ yX9_endRow) ∈ sy_W := sy_W_of (tk_4 _ (List.mem_of_getElem? (i := 7) rfl)) rfl
theorem wm_723 : (Cond.instanceMethod yX9_endRow) ∈ sy_W := sy_W_of (tk_4 _ (List.mem_of_getElem? (i := 8) rfl)) rfl
theorem wm_724 : (Cond.code yX9_endRow cX9_endRow 3 none) ∈ sy_W := sy_W_of (tk_4 _ (List.mem_of_getElem? (i := 9) rfl)) rfl
theorem wm_725 : (Cond.fieldLink RX9 35 "SkyTurns$ShiftRows" "hoursOf" "[I") ∈ sy_W := sy_W_of (tk_1 _ (List.mem_of_getElem? (i := 227) rfl)) rfl
theorem wm_726 : (Cond.sameField "SkyTurns$ShiftRows" "SkyTurns$Rows" "hoursOf" "[I") ∈ sy_W := sy_W_of (tk_1 _ (List.mem_of_getElem? (i := 228) rfl)) rfl
theorem wm_727 : (Cond.methodLink RX9 29 Lib.Math.max.name) ∈ sy_W := sy_W_of (tk_4 _ (List.mem_of_getElem? (i := 10) rfl)) rfl
theorem wm_728 : (Cond.fieldLink RX9 38 "SkyTurns$ShiftRows" "row" "[I") ∈ sy_W := sy_W_of (tk_1 _ (List.mem_of_getElem? (i := 222) rfl)) rfl
theorem wm_729 : (Cond.sameField "SkyTurns$ShiftRows" "SkyTurns$Rows" "row" "[I") ∈ sy_W := sy_W_of (tk_1 _ (List.mem_of_getElem? (i := 223) rfl)) rfl
theorem wm_730 : (Cond.methodLink RX9 41 arraycopyName) ∈ sy_W := sy_W_of (tk_4 _ (List.mem_of_getElem? (i := 11) rfl)) rfl
theorem wm_731 : (Cond.methodLink RX7 54 yX10_lowBehind) ∈ sy_W := sy_W_of (tk_4 _ (List.mem_of_getElem? (i := 12) rfl)) rfl
theorem wm_732 : (Cond.methodLink RX7 58 ⟨"SkyTurns$Rows", "fits", "(III)Z"⟩) ∈ sy_W := sy_W_of (tk_4 _ (List.mem_of_getElem? (i := 13) rfl)) rfl
theorem wm_733 : (Cond.sameMethod "SkyTurns$Rows" "SkyTurns$Rows" "fits" "(III)Z") ∈ sy_W := sy_W_of (tk_4 _ (List.mem_of_getElem? (i := 15) rfl)) rfl
theorem wm_734 : (Cond.selects RX8 ⟨"SkyTurns$Rows", "fits", "(III)Z"⟩ yX8_fits) ∈ sy_W := sy_W_of (tk_4 _ (List.mem_of_getElem? (i := 16) rfl)) rfl
theorem wm_735 : (Cond.instanceMethod yX8_fits) ∈ sy_W := sy_W_of (tk_4 _ (List.mem_of_getElem? (i := 17) rfl)) rfl
theorem wm_736 : (Cond.code yX8_fits cX8_fits 4 (some .boolean)) ∈ sy_W := sy_W_of (tk_4 _ (List.mem_of_getElem? (i := 18) rfl)) rfl
theorem wm_737 : (Cond.selects RX9 ⟨"SkyTurns$Rows", "fits", "(III)Z"⟩ yX9_fits) ∈ sy_W := sy_W_of (tk_4 _ (List.mem_of_getElem? (i := 19) rfl)) rfl
theorem wm_738 : (Cond.instanceMethod yX9_fits) ∈ sy_W := sy_W_of (tk_4 _ (List.mem_of_getElem? (i := 20) rfl)) rfl
theorem wm_739 : (Cond.code yX9_fits cX9_fits 4 (some .boolean)) ∈ sy_W := sy_W_of (tk_4 _ (List.mem_of_getElem? (i := 21) rfl)) rfl
theorem wm_740 : (Cond.methodLink RX7 62 ⟨"SkyTurns$Rows", "standBehind", "(III)V"⟩) ∈ sy_W := sy_W_of (tk_4 _ (List.mem_of_getElem? (i := 22) rfl)) rfl
theorem wm_741 : (Cond.sameMethod "SkyTurns$Rows" "SkyTurns$Rows" "standBehind" "(III)V") ∈ sy_W := sy_W_of (tk_6 _ (List.mem_of_getElem? (i := 137) rfl)) rfl
theorem wm_742 : (Cond.selects RX8 ⟨"SkyTurns$Rows", "standBehind", "(III)V"⟩ yX7_standBehind) ∈ sy_W := sy_W_os (List.mem_of_getElem? (i := 1) rfl) rfl
theorem wm_743 : (Cond.instanceMethod yX7_standBehind) ∈ sy_W := sy_W_of (tk_4 _ (List.mem_of_getElem? (i := 24) rfl)) rfl
theorem wm_744 : (Cond.code yX7_standBehind cX7_standBehind 5 none) ∈ sy_W := sy_W_of (tk_4 _ (List.mem_of_getElem? (i := 25) rfl)) rfl
theorem wm_745 : (Cond.methodLink RX7 66 yX10_handTo) ∈ sy_W := sy_W_of (tk_4 _ (List.mem_of_getElem? (i := 26) rfl)) rfl
theorem wm_746 : (Cond.methodLink RX7 69 yX10_endHour) ∈ sy_W := sy_W_of (tk_4 _ (List.mem_of_getElem? (i := 27) rfl)) rfl
theorem wm_747 : (Cond.selects RX9 ⟨"SkyTurns$Rows", "standBehind", "(III)V"⟩ yX7_standBehind) ∈ sy_W := sy_W_os (List.mem_of_getElem? (i := 3) rfl) rfl
theorem wm_748 : (Cond.selects RX9 ⟨"SkyTurns$Rows", "goOn", "(I)V"⟩ yX7_goOn) ∈ sy_W := sy_W_os (List.mem_of_getElem? (i := 2) rfl) rfl
theorem wm_749 : (Cond.methodLink RX11 265 yX9_fewest) ∈ sy_W := sy_W_of (tk_4 _ (List.mem_of_getElem? (i := 28) rfl)) rfl
theorem wm_750 : (Cond.instanceMethod yX9_fewest) ∈ sy_W := sy_W_of (tk_4 _ (List.mem_of_getElem? (i := 29) rfl)) rfl
theorem wm_751 : (Cond.selects RX9 yX9_fewest yX9_fewest) ∈ sy_W := sy_W_of (tk_4 _ (List.mem_of_getElem? (i := 30) rfl)) rfl
theorem wm_752 : (Cond.code yX9_fewest cX9_fewest 1 (some .int)) ∈ sy_W := sy_W_of (tk_4 _ (List.mem_of_getElem? (i := 31) rfl)) rfl
theorem wm_753 : (Cond.methodLink RX9 47 yX9_isFound) ∈ sy_W := sy_W_of (tk_4 _ (List.mem_of_getElem? (i := 32) rfl)) rfl
theorem wm_754 : (Cond.instanceMethod yX9_isFound) ∈ sy_W := sy_W_of (tk_4 _ (List.mem_of_getElem? (i := 34) rfl)) rfl
theorem wm_755 : (Cond.selects RX9 yX9_isFound yX9_isFound) ∈ sy_W := sy_W_of (tp_2 (yX9_isFound, 9) (List.mem_of_getElem? (i := 1) rfl)) rfl
theorem wm_756 : (Cond.code yX9_isFound cX9_isFound 1 (some .boolean)) ∈ sy_W := sy_W_of (tk_4 _ (List.mem_of_getElem? (i := 35) rfl)) rfl
theorem wm_757 : (Cond.methodLink RX11 268 yX9_holderAt) ∈ sy_W := sy_W_of (tk_4 _ (List.mem_of_getElem? (i := 36) rfl)) rfl
theorem wm_758 : (Cond.instanceMethod yX9_holderAt) ∈ sy_W := sy_W_of (tk_4 _ (List.mem_of_getElem? (i := 37) rfl)) rfl
theorem wm_759 : (Cond.selects RX9 yX9_holderAt yX9_holderAt) ∈ sy_W := sy_W_of (tk_4 _ (List.mem_of_getElem? (i := 38) rfl)) rfl
theorem wm_760 : (Cond.code yX9_holderAt cX9_holderAt 2 (some .int)) ∈ sy_W := sy_W_of (tk_4 _ (List.mem_of_getElem? (i := 39) rfl)) rfl
theorem wm_761 : (Cond.fieldLink RX9 51 "SkyTurns$ShiftRows" "hours" "I") ∈ sy_W := sy_W_of (tk_1 _ (List.mem_of_getElem? (i := 232) rfl)) rfl
theorem wm_762 : (Cond.sameField "SkyTurns$ShiftRows" "SkyTurns$Rows" "hours" "I") ∈ sy_W := sy_W_of (tk_1 _ (List.mem_of_getElem? (i := 233) rfl)) rfl
theorem wm_763 : (Cond.methodLink RL 72 yX12_shifts) ∈ sy_W := sy_W_of (tk_6 _ (List.mem_of_getElem? (i := 29) rfl)) rfl
theorem wm_764 : (Cond.instanceMethod yX12_shifts) ∈ sy_W := sy_W_of (tk_6 _ (List.mem_of_getElem? (i := 30) rfl)) rfl
theorem wm_765 : (Cond.selects RX12 yX12_shifts yX12_shifts) ∈ sy_W := sy_W_of (tk_6 _ (List.mem_of_getElem? (i := 31) rfl)) rfl
theorem wm_766 : (Cond.code yX12_shifts cX12_shifts 8 (some .int)) ∈ sy_W := sy_W_of (tk_6 _ (List.mem_of_getElem? (i := 32) rfl)) rfl
theorem wm_767 : (Cond.methodLink RX12 229 yX12_power) ∈ sy_W := sy_W_of (tk_6 _ (List.mem_of_getElem? (i := 33) rfl)) rfl
theorem wm_768 : (Cond.static yX12_power) ∈ sy_W := sy_W_of (tk_6 _ (List.mem_of_getElem? (i := 34) rfl)) rfl
theorem wm_769 : (Cond.code yX12_power cX12_power 4 (some .int)) ∈ sy_W := sy_W_of (tk_6 _ (List.mem_of_getElem? (i := 35) rfl)) rfl
theorem wm_770 : (Cond.methodLink RX12 233 yX12_lay) ∈ sy_W := sy_W_of (tk_6 _ (List.mem_of_getElem? (i := 36) rfl)) rfl
theorem wm_771 : (Cond.instanceMethod yX12_lay) ∈ sy_W := sy_W_of (tk_6 _ (List.mem_of_getElem? (i := 38) rfl)) rfl
theorem wm_772 : (Cond.selects RX12 yX12_lay yX12_lay) ∈ sy_W := sy_W_of (tp_4 (yX12_lay, 35) (List.mem_of_getElem? (i := 5) rfl)) rfl
theorem wm_773 : (Cond.code yX12_lay cX12_lay 5 none) ∈ sy_W := sy_W_of (tk_6 _ (List.mem_of_getElem? (i := 39) rfl)) rfl
theorem wm_774 : (Cond.methodLink RX12 237 yX12_mostOf) ∈ sy_W := sy_W_of (tk_6 _ (List.mem_of_getElem? (i := 40) rfl)) rfl
theorem wm_775 : (Cond.instanceMethod yX12_mostOf) ∈ sy_W := sy_W_of (tk_6 _ (List.mem_of_getElem? (i := 42) rfl)) rfl
theorem wm_776 : (Cond.selects RX12 yX12_mostOf yX12_mostOf) ∈ sy_W := sy_W_of (tp_4 (yX12_mostOf, 35) (List.mem_of_getElem? (i := 6) rfl)) rfl
theorem wm_777 : (Cond.code yX12_mostOf cX12_mostOf 6 (some .int)) ∈ sy_W := sy_W_of (tk_6 _ (List.mem_of_getElem? (i := 43) rfl)) rfl
theorem wm_778 : (Cond.methodLink RX12 240 yX12_goesFor) ∈ sy_W := sy_W_of (tk_6 _ (List.mem_of_getElem? (i := 44) rfl)) rfl
theorem wm_779 : (Cond.instanceMethod yX12_goesFor) ∈ sy_W := sy_W_of (tk_6 _ (List.mem_of_getElem? (i := 46) rfl)) rfl
theorem wm_780 : (Cond.selects RX12 yX12_goesFor yX12_goesFor) ∈ sy_W := sy_W_of (tp_4 (yX12_goesFor, 35) (List.mem_of_getElem? (i := 7) rfl)) rfl
theorem wm_781 : (Cond.code yX12_goesFor cX12_goesFor 4 (some .int)) ∈ sy_W := sy_W_of (tk_6 _ (List.mem_of_getElem? (i := 47) rfl)) rfl
theorem wm_782 : (Cond.methodLink RL 73 yX11_sinks) ∈ sy_W := sy_W_of (tk_4 _ (List.mem_of_getElem? (i := 40) rfl)) rfl
theorem wm_783 : (Cond.instanceMethod yX11_sinks) ∈ sy_W := sy_W_of (tk_4 _ (List.mem_of_getElem? (i := 41) rfl)) rfl
theorem wm_784 : (Cond.selects RX11 yX11_sinks yX11_sinks) ∈ sy_W := sy_W_of (tk_4 _ (List.mem_of_getElem? (i := 42) rfl)) rfl
theorem wm_785 : (Cond.code yX11_sinks cX11_sinks 3 (some .int)) ∈ sy_W := sy_W_of (tk_4 _ (List.mem_of_getElem? (i := 43) rfl)) rfl
theorem wm_786 : (Cond.methodLink RX11 271 yX9_firstSunk) ∈ sy_W := sy_W_of (tk_4 _ (List.mem_of_getElem? (i := 44) rfl)) rfl
theorem wm_787 : (Cond.instanceMethod yX9_firstSunk) ∈ sy_W := sy_W_of (tk_4 _ (List.mem_of_getElem? (i := 45) rfl)) rfl
theorem wm_788 : (Cond.selects RX9 yX9_firstSunk yX9_firstSunk) ∈ sy_W := sy_W_of (tk_4 _ (List.mem_of_getElem? (i := 46) rfl)) rfl
theorem wm_789 : (Cond.code yX9_firstSunk cX9_firstSunk 1 (some .int)) ∈ sy_W := sy_W_of (tk_4 _ (List.mem_of_getElem? (i := 47) rfl)) rfl
theorem wm_790 : (Cond.methodLink RL 76 yX12_sinks) ∈ sy_W := sy_W_of (tk_6 _ (List.mem_of_getElem? (i := 48) rfl)) rfl
theorem wm_791 : (Cond.instanceMethod yX12_sinks) ∈ sy_W := sy_W_of (tk_6 _ (List.mem_of_getElem? (i := 49) rfl)) rfl
theorem wm_792 : (Cond.selects RX12 yX12_sinks yX12_sinks) ∈ sy_W := sy_W_of (tk_6 _ (List.mem_of_getElem? (i := 50) rfl)) rfl
theorem wm_793 : (Cond.code yX12_sinks cX12_sinks 6 (some .int)) ∈ sy_W := sy_W_of (tk_6 _ (List.mem_of_getElem? (i := 51) rfl)) rfl
theorem wm_794 : (Cond.methodLink RL 77 yX11_chain) ∈ sy_W := sy_W_of (tk_4 _ (List.mem_of_getElem? (i := 48) rfl)) rfl
theorem wm_795 : (Cond.instanceMethod yX11_chain) ∈ sy_W := sy_W_of (tk_4 _ (List.mem_of_getElem? (i := 49) rfl)) rfl
theorem wm_796 : (Cond.selects RX11 yX11_chain yX11_chain) ∈ sy_W := sy_W_of (tk_4 _ (List.mem_of_getElem? (i := 50) rfl)) rfl
theorem wm_797 : (Cond.code yX11_chain cX11_chain 3 (some .int)) ∈ sy_W := sy_W_of (tk_4 _ (List.mem_of_getElem? (i := 51) rfl)) rfl
theorem wm_798 : (Cond.fieldLink RX11 276 "SkyTurns$Chain" "length" "I") ∈ sy_W := sy_W_of (tk_2 _ (List.mem_of_getElem? (i := 58) rfl)) rfl
theorem wm_799 : (Cond.methodLink RX11 274 yX1_find) ∈ sy_W := sy_W_of (tk_4 _ (List.mem_of_getElem? (i := 52) rfl)) rfl
theorem wm_800 : (Cond.instanceMethod yX1_find) ∈ sy_W := sy_W_of (tk_4 _ (List.mem_of_getElem? (i := 53) rfl)) rfl
theorem wm_801 : (Cond.selects RX1 yX1_find yX1_find) ∈ sy_W := sy_W_of (tk_4 _ (List.mem_of_getElem? (i := 54) rfl)) rfl
theorem wm_802 : (Cond.code yX1_find cX1_find 5 none) ∈ sy_W := sy_W_of (tk_4 _ (List.mem_of_getElem? (i := 55) rfl)) rfl
theorem wm_803 : (Cond.fieldLink RX1 35 "SkyTurns$Chain" "length" "I") ∈ sy_W := sy_W_of (tk_2 _ (List.mem_of_getElem? (i := 57) rfl)) rfl
theorem wm_804 : (Cond.fieldLink RX1 39 "SkyTurns$Edge" "people" "I") ∈ sy_W := sy_W_of (tk_1 _ (List.mem_of_getElem? (i := 61) rfl)) rfl
theorem wm_805 : (Cond.methodLink RX1 29 yX10_isHolding) ∈ sy_W := sy_W_of (tk_4 _ (List.mem_of_getElem? (i := 56) rfl)) rfl
theorem wm_806 : (Cond.methodLink RX1 44 yX10_isTrickedBySome) ∈ sy_W := sy_W_of (tk_4 _ (List.mem_of_getElem? (i := 57) rfl)) rfl
theorem wm_807 : (Cond.instanceMethod yX10_isTrickedBySome) ∈ sy_W := sy_W_of (tk_4 _ (List.mem_of_getElem? (i := 58) rfl)) rfl
theorem wm_808 : (Cond.selects RX10 yX10_isTrickedBySome yX10_isTrickedBySome) ∈ sy_W := sy_W_of (tk_4 _ (List.mem_of_getElem? (i := 59) rfl)) rfl
theorem wm_809 : (Cond.code yX10_isTrickedBySome cX10_isTrickedBySome 3 (some .boolean)) ∈ sy_W := sy_W_of (tk_4 _ (List.mem_of_getElem? (i := 60) rfl)) rfl
theorem wm_810 : (Cond.methodLink RX1 47 yX10_isFatherHolding) ∈ sy_W := sy_W_of (tk_4 _ (List.mem_of_getElem? (i := 61) rfl)) rfl
theorem wm_811 : (Cond.methodLink RX1 50 yX1_countSteps) ∈ sy_W := sy_W_of (tk_4 _ (List.mem_of_getElem? (i := 62) rfl)) rfl
theorem wm_812 : (Cond.instanceMethod yX1_countSteps) ∈ sy_W := sy_W_of (tk_4 _ (List.mem_of_getElem? (i := 64) rfl)) rfl
theorem wm_813 : (Cond.selects RX1 yX1_countSteps yX1_countSteps) ∈ sy_W := sy_W_of (tp_2 (yX1_countSteps, 6) (List.mem_of_getElem? (i := 2) rfl)) rfl
theorem wm_814 : (Cond.code yX1_countSteps cX1_countSteps 4 none) ∈ sy_W := sy_W_of (tk_4 _ (List.mem_of_getElem? (i := 65) rfl)) rfl
theorem wm_815 : (Cond.methodLink RX1 58 yX1_leadsOn) ∈ sy_W := sy_W_of (tk_4 _ (List.mem_of_getElem? (i := 66) rfl)) rfl
theorem wm_816 : (Cond.instanceMethod yX1_leadsOn) ∈ sy_W := sy_W_of (tk_4 _ (List.mem_of_getElem? (i := 68) rfl)) rfl
theorem wm_817 : (Cond.selects RX1 yX1_leadsOn yX1_leadsOn) ∈ sy_W := sy_W_of (tp_2 (yX1_leadsOn, 6) (List.mem_of_getElem? (i := 3) rfl)) rfl
theorem wm_818 : (Cond.code yX1_leadsOn cX1_leadsOn 4 (some .boolean)) ∈ sy_W := sy_W_of (tk_4 _ (List.mem_of_getElem? (i := 69) rfl)) rfl
theorem wm_819 : (Cond.methodLink RX1 62 yX1_isStep) ∈ sy_W := sy_W_of (tk_4 _ (List.mem_of_getElem? (i := 70) rfl)) rfl
theorem wm_820 : (Cond.instanceMethod yX1_isStep) ∈ sy_W := sy_W_of (tk_4 _ (List.mem_of_getElem? (i := 72) rfl)) rfl
theorem wm_821 : (Cond.selects RX1 yX1_isStep yX1_isStep) ∈ sy_W := sy_W_of (tp_2 (yX1_isStep, 6) (List.mem_of_getElem? (i := 4) rfl)) rfl
theorem wm_822 : (Cond.code yX1_isStep cX1_isStep 3 (some .boolean)) ∈ sy_W := sy_W_of (tk_4 _ (List.mem_of_getElem? (i := 73) rfl)) rfl
theorem wm_823 : (Cond.methodLink RX1 65 yX3_isSon) ∈ sy_W := sy_W_of (tk_4 _ (List.mem_of_getElem? (i := 74) rfl)) rfl
theorem wm_824 : (Cond.methodLink RX1 54 yX1_nextOf) ∈ sy_W := sy_W_of (tk_4 _ (List.mem_of_getElem? (i := 75) rfl)) rfl
theorem wm_825 : (Cond.instanceMethod yX1_nextOf) ∈ sy_W := sy_W_of (tk_4 _ (List.mem_of_getElem? (i := 77) rfl)) rfl
theorem wm_826 : (Cond.selects RX1 yX1_nextOf yX1_nextOf) ∈ sy_W := sy_W_of (tp_2 (yX1_nextOf, 6) (List.mem_of_getElem? (i := 5) rfl)) rfl
theorem wm_827 : (Cond.code yX1_nextOf cX1_nextOf 4 (some .int)) ∈ sy_W := sy_W_of (tk_4 _ (List.mem_of_getElem? (i := 78) rfl)) rfl
theorem wm_828 : (Cond.methodLink RX11 277 yX1_holderAt) ∈ sy_W := sy_W_of (tk_4 _ (List.mem_of_getElem? (i := 79) rfl)) rfl
theorem wm_829 : (Cond.instanceMethod yX1_holderAt) ∈ sy_W := sy_W_of (tk_4 _ (List.mem_of_getElem? (i := 80) rfl)) rfl
theorem wm_830 : (Cond.selects RX1 yX1_holderAt yX1_holderAt) ∈ sy_W := sy_W_of (tk_4 _ (List.mem_of_getElem? (i := 81) rfl)) rfl
theorem wm_831 : (Cond.code yX1_holderAt cX1_holderAt 2 (some .int)) ∈ sy_W := sy_W_of (tk_4 _ (List.mem_of_getElem? (i := 82) rfl)) rfl
theorem wm_832 : (Cond.methodLink RL 80 yX12_chain) ∈ sy_W := sy_W_of (tk_6 _ (List.mem_of_getElem? (i := 52) rfl)) rfl
theorem wm_833 : (Cond.instanceMethod yX12_chain) ∈ sy_W := sy_W_of (tk_6 _ (List.mem_of_getElem? (i := 53) rfl)) rfl
theorem wm_834 : (Cond.selects RX12 yX12_chain yX12_chain) ∈ sy_W := sy_W_of (tk_6 _ (List.mem_of_getElem? (i := 54) rfl)) rfl
theorem wm_835 : (Cond.code yX12_chain cX12_chain 9 (some .int)) ∈ sy_W := sy_W_of (tk_6 _ (List.mem_of_getElem? (i := 55) rfl)) rfl
theorem wm_836 : (Cond.methodLink RX12 249 yX12_layFar) ∈ sy_W := sy_W_of (tk_6 _ (List.mem_of_getElem? (i := 56) rfl)) rfl
theorem wm_837 : (Cond.instanceMethod yX12_layFar) ∈ sy_W := sy_W_of (tk_6 _ (List.mem_of_getElem? (i := 58) rfl)) rfl
theorem wm_838 : (Cond.selects RX12 yX12_layFar yX12_layFar) ∈ sy_W := sy_W_of (tp_4 (yX12_layFar, 35) (List.mem_of_getElem? (i := 8) rfl)) rfl
theorem wm_839 : (Cond.code yX12_layFar cX12_layFar 5 none) ∈ sy_W := sy_W_of (tk_6 _ (List.mem_of_getElem? (i := 59) rfl)) rfl
theorem wm_840 : (Cond.methodLink RX12 246 yX12_isNext) ∈ sy_W := sy_W_of (tk_6 _ (List.mem_of_getElem? (i := 60) rfl)) rfl
theorem wm_841 : (Cond.instanceMethod yX12_isNext) ∈ sy_W := sy_W_of (tk_6 _ (List.mem_of_getElem? (i := 62) rfl)) rfl
theorem wm_842 : (Cond.selects RX12 yX12_isNext yX12_isNext) ∈ sy_W := sy_W_of (tp_4 (yX12_isNext, 35) (List.mem_of_getElem? (i := 9) rfl)) rfl
theorem wm_843 : (Cond.code yX12_isNext cX12_isNext 3 (some .boolean)) ∈ sy_W := sy_W_of (tk_6 _ (List.mem_of_getElem? (i := 63) rfl)) rfl
theorem wm_844 : (Cond.methodLink RX12 243 yX12_fallsNow) ∈ sy_W := sy_W_of (tk_6 _ (List.mem_of_getElem? (i := 64) rfl)) rfl
theorem wm_845 : (Cond.instanceMethod yX12_fallsNow) ∈ sy_W := sy_W_of (tk_6 _ (List.mem_of_getElem? (i := 66) rfl)) rfl
theorem wm_846 : (Cond.selects RX12 yX12_fallsNow yX12_fallsNow) ∈ sy_W := sy_W_of (tp_4 (yX12_fallsNow, 35) (List.mem_of_getElem? (i := 10) rfl)) rfl
theorem wm_847 : (Cond.code yX12_fallsNow cX12_fallsNow 2 (some .boolean)) ∈ sy_W := sy_W_of (tk_6 _ (List.mem_of_getElem? (i := 67) rfl)) rfl
theorem wm_848 : (Cond.methodLink RL 81 yX11_pair) ∈ sy_W := sy_W_of (tk_4 _ (List.mem_of_getElem? (i := 83) rfl)) rfl
theorem wm_849 : (Cond.instanceMethod yX11_pair) ∈ sy_W := sy_W_of (tk_4 _ (List.mem_of_getElem? (i := 84) rfl)) rfl
theorem wm_850 : (Cond.selects RX11 yX11_pair yX11_pair) ∈ sy_W := sy_W_of (tk_4 _ (List.mem_of_getElem? (i := 85) rfl)) rfl
theorem wm_851 : (Cond.code yX11_pair cX11_pair 8 (some .int)) ∈ sy_W := sy_W_of (tk_4 _ (List.mem_of_getElem? (i := 86) rfl)) rfl
theorem wm_852 : (Cond.methodLink RL 84 yX12_pair) ∈ sy_W := sy_W_of (tk_6 _ (List.mem_of_getElem? (i := 68) rfl)) rfl
theorem wm_853 : (Cond.instanceMethod yX12_pair) ∈ sy_W := sy_W_of (tk_6 _ (List.mem_of_getElem? (i := 69) rfl)) rfl
theorem wm_854 : (Cond.selects RX12 yX12_pair yX12_pair) ∈ sy_W := sy_W_of (tk_6 _ (List.mem_of_getElem? (i := 70) rfl)) rfl
theorem wm_855 : (Cond.code yX12_pair cX12_pair 8 (some .int)) ∈ sy_W := sy_W_of (tk_6 _ (List.mem_of_getElem? (i := 71) rfl)) rfl
theorem wm_856 : (Cond.methodLink RL 85 yX11_owes) ∈ sy_W := sy_W_of (tk_4 _ (List.mem_of_getElem? (i := 87) rfl)) rfl
theorem wm_857 : (Cond.instanceMethod yX11_owes) ∈ sy_W := sy_W_of (tk_4 _ (List.mem_of_getElem? (i := 88) rfl)) rfl
theorem wm_858 : (Cond.selects RX11 yX11_owes yX11_owes) ∈ sy_W := sy_W_of (tk_4 _ (List.mem_of_getElem? (i := 89) rfl)) rfl
theorem wm_859 : (Cond.code yX11_owes cX11_owes 2 (some .int)) ∈ sy_W := sy_W_of (tk_4 _ (List.mem_of_getElem? (i := 90) rfl)) rfl
theorem wm_860 : (Cond.methodLink RX11 278 yX2_ofOne) ∈ sy_W := sy_W_of (tk_4 _ (List.mem_of_getElem? (i := 91) rfl)) rfl
theorem wm_861 : (Cond.instanceMethod yX2_ofOne) ∈ sy_W := sy_W_of (tk_4 _ (List.mem_of_getElem? (i := 92) rfl)) rfl
theorem wm_862 : (Cond.selects RX2 yX2_ofOne yX2_ofOne) ∈ sy_W := sy_W_of (tk_4 _ (List.mem_of_getElem? (i := 93) rfl)) rfl
theorem wm_863 : (Cond.code yX2_ofOne cX2_ofOne 5 (some .int)) ∈ sy_W := sy_W_of (tk_4 _ (List.mem_of_getElem? (i := 94) rfl)) rfl
theorem wm_864 : (Cond.fieldLink RX2 22 "SkyTurns$Edge" "people" "I") ∈ sy_W := sy_W_of (tk_1 _ (List.mem_of_getElem? (i := 60) rfl)) rfl
theorem wm_865 : (Cond.fieldLink RX2 28 "SkyTurns$Sky" "held" "[I") ∈ sy_W := sy_W_of (tk_1 _ (List.mem_of_getElem? (i := 106) rfl)) rfl
theorem wm_866 : (Cond.methodLink RL 88 yX12_owes) ∈ sy_W := sy_W_of (tk_6 _ (List.mem_of_getElem? (i := 72) rfl)) rfl
theorem wm_867 : (Cond.instanceMethod yX12_owes) ∈ sy_W := sy_W_of (tk_6 _ (List.mem_of_getElem? (i := 73) rfl)) rfl
theorem wm_868 : (Cond.selects RX12 yX12_owes yX12_owes) ∈ sy_W := sy_W_of (tk_6 _ (List.mem_of_getElem? (i := 74) rfl)) rfl
theorem wm_869 : (Cond.code yX12_owes cX12_owes 2 (some .int)) ∈ sy_W := sy_W_of (tk_6 _ (List.mem_of_getElem? (i := 75) rfl)) rfl
theorem wm_870 : (Cond.methodLink RX12 252 yX12_owesOf) ∈ sy_W := sy_W_of (tk_6 _ (List.mem_of_getElem? (i := 76) rfl)) rfl
theorem wm_871 : (Cond.instanceMethod yX12_owesOf) ∈ sy_W := sy_W_of (tk_6 _ (List.mem_of_getElem? (i := 78) rfl)) rfl
theorem wm_872 : (Cond.selects RX12 yX12_owesOf yX12_owesOf) ∈ sy_W := sy_W_of (tp_4 (yX12_owesOf, 35) (List.mem_of_getElem? (i := 11) rfl)) rfl
theorem wm_873 : (Cond.code yX12_owesOf cX12_owesOf 4 (some .int)) ∈ sy_W := sy_W_of (tk_6 _ (List.mem_of_getElem? (i := 79) rfl)) rfl
theorem wm_874 : (Cond.methodLink RL 89 yX11_payments) ∈ sy_W := sy_W_of (tk_4 _ (List.mem_of_getElem? (i := 95) rfl)) rfl
theorem wm_875 : (Cond.instanceMethod yX11_payments) ∈ sy_W := sy_W_of (tk_4 _ (List.mem_of_getElem? (i := 96) rfl)) rfl
theorem wm_876 : (Cond.selects RX11 yX11_payments yX11_payments) ∈ sy_W := sy_W_of (tk_4 _ (List.mem_of_getElem? (i := 97) rfl)) rfl
theorem wm_877 : (Cond.code yX11_payments cX11_payments 1 (some .int)) ∈ sy_W := sy_W_of (tk_4 _ (List.mem_of_getElem? (i := 98) rfl)) rfl
theorem wm_878 : (Cond.methodLink RX11 282 yX2_fewestPayments) ∈ sy_W := sy_W_of (tk_4 _ (List.mem_of_getElem? (i := 99) rfl)) rfl
theorem wm_879 : (Cond.instanceMethod yX2_fewestPayments) ∈ sy_W := sy_W_of (tk_4 _ (List.mem_of_getElem? (i := 100) rfl)) rfl
theorem wm_880 : (Cond.selects RX2 yX2_fewestPayments yX2_fewestPayments) ∈ sy_W := sy_W_of (tk_4 _ (List.mem_of_getElem? (i := 101) rfl)) rfl
theorem wm_881 : (Cond.code yX2_fewestPayments cX2_fewestPayments 6 (some .int)) ∈ sy_W := sy_W_of (tk_4 _ (List.mem_of_getElem? (i := 102) rfl)) rfl
theorem wm_882 : (Cond.methodLink RX2 48 Lib.Math.max.name) ∈ sy_W := sy_W_of (tk_4 _ (List.mem_of_getElem? (i := 104) rfl)) rfl
theorem wm_883 : (Cond.methodLink RX2 37 yX2_ofOne) ∈ sy_W := sy_W_of (tk_4 _ (List.mem_of_getElem? (i := 103) rfl)) rfl
theorem wm_884 : (Cond.methodLink RL 92 yX12_payments) ∈ sy_W := sy_W_of (tk_6 _ (List.mem_of_getElem? (i := 80) rfl)) rfl
theorem wm_885 : (Cond.instanceMethod yX12_payments) ∈ sy_W := sy_W_of (tk_6 _ (List.mem_of_getElem? (i := 81) rfl)) rfl
theorem wm_886 : (Cond.selects RX12 yX12_payments yX12_payments) ∈ sy_W := sy_W_of (tk_6 _ (List.mem_of_getElem? (i := 82) rfl)) rfl
theorem wm_887 : (Cond.code yX12_payments cX12_payments 8 (some .int)) ∈ sy_W := sy_W_of (tk_6 _ (List.mem_of_getElem? (i := 83) rfl)) rfl
theorem wm_888 : (Cond.methodLink RL 93 yX11_sons) ∈ sy_W := sy_W_of (tk_4 _ (List.mem_of_getElem? (i := 105) rfl)) rfl
theorem wm_889 : (Cond.instanceMethod yX11_sons) ∈ sy_W := sy_W_of (tk_4 _ (List.mem_of_getElem? (i := 106) rfl)) rfl
theorem wm_890 : (Cond.selects RX11 yX11_sons yX11_sons) ∈ sy_W := sy_W_of (tk_4 _ (List.mem_of_getElem? (i := 107) rfl)) rfl
theorem wm_891 : (Cond.code yX11_sons cX11_sons 2 (some .int)) ∈ sy_W := sy_W_of (tk_4 _ (List.mem_of_getElem? (i := 108) rfl)) rfl
theorem wm_892 : (Cond.methodLink RX11 286 yX2_ofLine) ∈ sy_W := sy_W_of (tk_4 _ (List.mem_of_getElem? (i := 109) rfl)) rfl
theorem wm_893 : (Cond.instanceMethod yX2_ofLine) ∈ sy_W := sy_W_of (tk_4 _ (List.mem_of_getElem? (i := 110) rfl)) rfl
theorem wm_894 : (Cond.selects RX2 yX2_ofLine yX2_ofLine) ∈ sy_W := sy_W_of (tk_4 _ (List.mem_of_getElem? (i := 111) rfl)) rfl
theorem wm_895 : (Cond.code yX2_ofLine cX2_ofLine 5 (some .int)) ∈ sy_W := sy_W_of (tk_4 _ (List.mem_of_getElem? (i := 112) rfl)) rfl
theorem wm_896 : (Cond.methodLink RX2 33 yX2_isOfLine) ∈ sy_W := sy_W_of (tk_4 _ (List.mem_of_getElem? (i := 113) rfl)) rfl
theorem wm_897 : (Cond.instanceMethod yX2_isOfLine) ∈ sy_W := sy_W_of (tk_4 _ (List.mem_of_getElem? (i := 115) rfl)) rfl
theorem wm_898 : (Cond.selects RX2 yX2_isOfLine yX2_isOfLine) ∈ sy_W := sy_W_of (tp_2 (yX2_isOfLine, 3) (List.mem_of_getElem? (i := 6) rfl)) rfl
theorem wm_899 : (Cond.code yX2_isOfLine cX2_isOfLine 5 (some .boolean)) ∈ sy_W := sy_W_of (tk_4 _ (List.mem_of_getElem? (i := 116) rfl)) rfl
theorem wm_900 : (Cond.fieldLink RX2 45 "SkyTurns$Edge" "father" "[I") ∈ sy_W := sy_W_of (tk_1 _ (List.mem_of_getElem? (i := 51) rfl)) rfl
theorem wm_901 : (Cond.methodLink RX2 41 yX3_isPerson) ∈ sy_W := sy_W_of (tk_4 _ (List.mem_of_getElem? (i := 117) rfl)) rfl
theorem wm_902 : (Cond.methodLink RL 96 yX12_sons) ∈ sy_W := sy_W_of (tk_6 _ (List.mem_of_getElem? (i := 84) rfl)) rfl
theorem wm_903 : (Cond.instanceMethod yX12_sons) ∈ sy_W := sy_W_of (tk_6 _ (List.mem_of_getElem? (i := 85) rfl)) rfl
theorem wm_904 : (Cond.selects RX12 yX12_sons yX12_sons) ∈ sy_W := sy_W_of (tk_6 _ (List.mem_of_getElem? (i := 86) rfl)) rfl
theorem wm_905 : (Cond.code yX12_sons cX12_sons 5 (some .int)) ∈ sy_W := sy_W_of (tk_6 _ (List.mem_of_getElem? (i := 87) rfl)) rfl
theorem wm_906 : (Cond.methodLink RL 97 yX11_words) ∈ sy_W := sy_W_of (tk_4 _ (List.mem_of_getElem? (i := 118) rfl)) rfl
theorem wm_907 : (Cond.instanceMethod yX11_words) ∈ sy_W := sy_W_of (tk_4 _ (List.mem_of_getElem? (i := 119) rfl)) rfl
theorem wm_908 : (Cond.selects RX11 yX11_words yX11_words) ∈ sy_W := sy_W_of (tk_4 _ (List.mem_of_getElem? (i := 120) rfl)) rfl
theorem wm_909 : (Cond.code yX11_words cX11_words 6 (some .int)) ∈ sy_W := sy_W_of (tk_4 _ (List.mem_of_getElem? (i := 121) rfl)) rfl
theorem wm_910 : (Cond.fieldLink RX11 296 "SkyTurns$Game" "valueAbove" "I") ∈ sy_W := sy_W_of (tk_2 _ (List.mem_of_getElem? (i := 119) rfl)) rfl
theorem wm_911 : (Cond.fieldLink RX11 299 "SkyTurns$Game" "valueBelow" "I") ∈ sy_W := sy_W_of (tk_2 _ (List.mem_of_getElem? (i := 121) rfl)) rfl
theorem wm_912 : (Cond.fieldLink RX11 302 "SkyTurns$Game" "oddsAbove" "I") ∈ sy_W := sy_W_of (tk_2 _ (List.mem_of_getElem? (i := 123) rfl)) rfl
theorem wm_913 : (Cond.fieldLink RX11 305 "SkyTurns$Game" "oddsBelow" "I") ∈ sy_W := sy_W_of (tk_2 _ (List.mem_of_getElem? (i := 125) rfl)) rfl
theorem wm_914 : (Cond.methodLink RX11 289 yX11_isNoGain) ∈ sy_W := sy_W_of (tk_4 _ (List.mem_of_getElem? (i := 122) rfl)) rfl
theorem wm_915 : (Cond.static yX11_isNoGain) ∈ sy_W := sy_W_of (tk_4 _ (List.mem_of_getElem? (i := 123) rfl)) rfl
theorem wm_916 : (Cond.code yX11_isNoGain cX11_isNoGain 1 (some .boolean)) ∈ sy_W := sy_W_of (tk_4 _ (List.mem_of_getElem? (i := 124) rfl)) rfl
theorem wm_917 : (Cond.methodLink RX11 292 yX4_solve) ∈ sy_W := sy_W_of (tk_4 _ (List.mem_of_getElem? (i := 125) rfl)) rfl
theorem wm_918 : (Cond.instanceMethod yX4_solve) ∈ sy_W := sy_W_of (tk_4 _ (List.mem_of_getElem? (i := 126) rfl)) rfl
theorem wm_919 : (Cond.selects RX4 yX4_solve yX4_solve) ∈ sy_W := sy_W_of (tk_4 _ (List.mem_of_getElem? (i := 127) rfl)) rfl
theorem wm_920 : (Cond.code yX4_solve cX4_solve 7 none) ∈ sy_W := sy_W_of (tk_4 _ (List.mem_of_getElem? (i := 128) rfl)) rfl
theorem wm_921 : (Cond.fieldLink RX4 7 "SkyTurns$Game" "said0Thought0" "I") ∈ sy_W := sy_W_of (tk_2 _ (List.mem_of_getElem? (i := 114) rfl)) rfl
theorem wm_922 : (Cond.fieldLink RX4 13 "SkyTurns$Game" "said0Thought1" "I") ∈ sy_W := sy_W_of (tk_2 _ (List.mem_of_getElem? (i := 115) rfl)) rfl
theorem wm_923 : (Cond.fieldLink RX4 16 "SkyTurns$Game" "said1Thought0" "I") ∈ sy_W := sy_W_of (tk_2 _ (List.mem_of_getElem? (i := 116) rfl)) rfl
theorem wm_924 : (Cond.fieldLink RX4 19 "SkyTurns$Game" "said1Thought1" "I") ∈ sy_W := sy_W_of (tk_2 _ (List.mem_of_getElem? (i := 117) rfl)) rfl
theorem wm_925 : (Cond.fieldLink RX4 32 "SkyTurns$Game" "valueAbove" "I") ∈ sy_W := sy_W_of (tk_2 _ (List.mem_of_getElem? (i := 118) rfl)) rfl
theorem wm_926 : (Cond.fieldLink RX4 35 "SkyTurns$Game" "valueBelow" "I") ∈ sy_W := sy_W_of (tk_2 _ (List.mem_of_getElem? (i := 120) rfl)) rfl
theorem wm_927 : (Cond.fieldLink RX4 42 "SkyTurns$Game" "oddsAbove" "I") ∈ sy_W := sy_W_of (tk_2 _ (List.mem_of_getElem? (i := 122) rfl)) rfl
theorem wm_928 : (Cond.fieldLink RX4 45 "SkyTurns$Game" "oddsBelow" "I") ∈ sy_W := sy_W_of (tk_2 _ (List.mem_of_getElem? (i := 124) rfl)) rfl
theorem wm_929 : (Cond.methodLink RX4 22 yX4_setOdds) ∈ sy_W := sy_W_of (tk_4 _ (List.mem_of_getElem? (i := 129) rfl)) rfl
theorem wm_930 : (Cond.instanceMethod yX4_setOdds) ∈ sy_W := sy_W_of (tk_4 _ (List.mem_of_getElem? (i := 131) rfl)) rfl
theorem wm_931 : (Cond.selects RX4 yX4_setOdds yX4_setOdds) ∈ sy_W := sy_W_of (tp_2 (yX4_setOdds, 8) (List.mem_of_getElem? (i := 7) rfl)) rfl
theorem wm_932 : (Cond.code yX4_setOdds cX4_setOdds 3 none) ∈ sy_W := sy_W_of (tk_4 _ (List.mem_of_getElem? (i := 132) rfl)) rfl
theorem wm_933 : (Cond.methodLink RX4 54 yX4_valueOf) ∈ sy_W := sy_W_of (tk_4 _ (List.mem_of_getElem? (i := 133) rfl)) rfl
theorem wm_934 : (Cond.instanceMethod yX4_valueOf) ∈ sy_W := sy_W_of (tk_4 _ (List.mem_of_getElem? (i := 135) rfl)) rfl
theorem wm_935 : (Cond.selects RX4 yX4_valueOf yX4_valueOf) ∈ sy_W := sy_W_of (tp_2 (yX4_valueOf, 8) (List.mem_of_getElem? (i := 8) rfl)) rfl
theorem wm_936 : (Cond.code yX4_valueOf cX4_valueOf 5 (some .int)) ∈ sy_W := sy_W_of (tk_4 _ (List.mem_of_getElem? (i := 136) rfl)) rfl
theorem wm_937 : (Cond.methodLink RX4 57 Lib.Math.min.name) ∈ sy_W := sy_W_of (tk_4 _ (List.mem_of_getElem? (i := 137) rfl)) rfl
theorem wm_938 : (Cond.methodLink RX4 26 yX4_tryEvenOdds) ∈ sy_W := sy_W_of (tk_4 _ (List.mem_of_getElem? (i := 138) rfl)) rfl
theorem wm_939 : (Cond.instanceMethod yX4_tryEvenOdds) ∈ sy_W := sy_W_of (tk_4 _ (List.mem_of_getElem? (i := 140) rfl)) rfl
theorem wm_940 : (Cond.selects RX4 yX4_tryEvenOdds yX4_tryEvenOdds) ∈ sy_W := sy_W_of (tp_2 (yX4_tryEvenOdds, 8) (List.mem_of_getElem? (i := 9) rfl)) rfl
theorem wm_941 : (Cond.code yX4_tryEvenOdds cX4_tryEvenOdds 5 none) ∈ sy_W := sy_W_of (tk_4 _ (List.mem_of_getElem? (i := 141) rfl)) rfl
theorem wm_942 : (Cond.methodLink RX4 48 Lib.Math.abs.name) ∈ sy_W := sy_W_of (tk_4 _ (List.mem_of_getElem? (i := 142) rfl)) rfl
theorem wm_943 : (Cond.methodLink RX4 29 yX4_tryOdds) ∈ sy_W := sy_W_of (tk_4 _ (List.mem_of_getElem? (i := 143) rfl)) rfl
theorem wm_944 : (Cond.instanceMethod yX4_tryOdds) ∈ sy_W := sy_W_of (tk_4 _ (List.mem_of_getElem? (i := 145) rfl)) rfl
theorem wm_945 : (Cond.selects RX4 yX4_tryOdds yX4_tryOdds) ∈ sy_W := sy_W_of (tp_2 (yX4_tryOdds, 8) (List.mem_of_getElem? (i := 10) rfl)) rfl
theorem wm_946 : (Cond.code yX4_tryOdds cX4_tryOdds 3 none) ∈ sy_W := sy_W_of (tk_4 _ (List.mem_of_getElem? (i := 146) rfl)) rfl
theorem wm_947 : (Cond.methodLink RX4 38 yX4_greatestCommonPart) ∈ sy_W := sy_W_of (tk_4 _ (List.mem_of_getElem? (i := 147) rfl)) rfl
theorem wm_948 : (Cond.static yX4_greatestCommonPart) ∈ sy_W := sy_W_of (tk_4 _ (List.mem_of_getElem? (i := 148) rfl)) rfl
theorem wm_949 : (Cond.code yX4_greatestCommonPart cX4_greatestCommonPart 6 (some .int)) ∈ sy_W := sy_W_of (tk_4 _ (List.mem_of_getElem? (i := 149) rfl)) rfl
theorem wm_950 : (Cond.methodLink RX4 60 Lib.Math.max.name) ∈ sy_W := sy_W_of (tk_4 _ (List.mem_of_getElem? (i := 150) rfl)) rfl
theorem wm_951 : (Cond.methodLink RL 101 yX12_words) ∈ sy_W := sy_W_of (tk_6 _ (List.mem_of_getElem? (i := 88) rfl)) rfl
theorem wm_952 : (Cond.instanceMethod yX12_words) ∈ sy_W := sy_W_of (tk_6 _ (List.mem_of_getElem? (i := 89) rfl)) rfl
theorem wm_953 : (Cond.selects RX12 yX12_words yX12_words) ∈ sy_W := sy_W_of (tk_6 _ (List.mem_of_getElem? (i := 90) rfl)) rfl
theorem wm_954 : (Cond.code yX12_words cX12_words 18 (some .int)) ∈ sy_W := sy_W_of (tk_6 _ (List.mem_of_getElem? (i := 91) rfl)) rfl
theorem wm_955 : (Cond.methodLink RL 102 yX11_pillar) ∈ sy_W := sy_W_of (tk_4 _ (List.mem_of_getElem? (i := 151) rfl)) rfl
theorem wm_956 : (Cond.instanceMethod yX11_pillar) ∈ sy_W := sy_W_of (tk_4 _ (List.mem_of_getElem? (i := 152) rfl)) rfl
theorem wm_957 : (Cond.selects RX11 yX11_pillar yX11_pillar) ∈ sy_W := sy_W_of (tk_4 _ (List.mem_of_getElem? (i := 153) rfl)) rfl
theorem wm_958 : (Cond.code yX11_pillar cX11_pillar 3 (some .int)) ∈ sy_W := sy_W_of (tk_4 _ (List.mem_of_getElem? (i := 154) rfl)) rfl
theorem wm_959 : (Cond.methodLink RX11 308 yX11_harmBehind) ∈ sy_W := sy_W_of (tk_4 _ (List.mem_of_getElem? (i := 155) rfl)) rfl
theorem wm_960 : (Cond.instanceMethod yX11_harmBehind) ∈ sy_W := sy_W_of (tk_4 _ (List.mem_of_getElem? (i := 157) rfl)) rfl
theorem wm_961 : (Cond.selects RX11 yX11_harmBehind yX11_harmBehind) ∈ sy_W := sy_W_of (tp_2 (yX11_harmBehind, 16) (List.mem_of_getElem? (i := 11) rfl)) rfl
theorem wm_962 : (Cond.code yX11_harmBehind cX11_harmBehind 4 (some .int)) ∈ sy_W := sy_W_of (tk_4 _ (List.mem_of_getElem? (i := 158) rfl)) rfl
theorem wm_963 : (Cond.methodLink RX11 323 yX10_copyFrom) ∈ sy_W := sy_W_of (tk_4 _ (List.mem_of_getElem? (i := 159) rfl)) rfl
theorem wm_964 : (Cond.methodLink RL 105 yX12_pillar) ∈ sy_W := sy_W_of (tk_6 _ (List.mem_of_getElem? (i := 92) rfl)) rfl
theorem wm_965 : (Cond.instanceMethod yX12_pillar) ∈ sy_W := sy_W_of (tk_6 _ (List.mem_of_getElem? (i := 93) rfl)) rfl
theorem wm_966 : (Cond.selects RX12 yX12_pillar yX12_pillar) ∈ sy_W := sy_W_of (tk_6 _ (List.mem_of_getElem? (i := 94) rfl)) rfl
theorem wm_967 : (Cond.code yX12_pillar cX12_pillar 5 (some .int)) ∈ sy_W := sy_W_of (tk_6 _ (List.mem_of_getElem? (i := 95) rfl)) rfl
theorem wm_968 : (Cond.methodLink RL 106 yX11_see) ∈ sy_W := sy_W_of (tk_4 _ (List.mem_of_getElem? (i := 160) rfl)) rfl
theorem wm_969 : (Cond.instanceMethod yX11_see) ∈ sy_W := sy_W_of (tk_4 _ (List.mem_of_getElem? (i := 161) rfl)) rfl
theorem wm_970 : (Cond.selects RX11 yX11_see yX11_see) ∈ sy_W := sy_W_of (tk_4 _ (List.mem_of_getElem? (i := 162) rfl)) rfl
theorem wm_971 : (Cond.code yX11_see cX11_see 2 (some .int)) ∈ sy_W := sy_W_of (tk_4 _ (List.mem_of_getElem? (i := 163) rfl)) rfl
theorem wm_972 : (Cond.methodLink RX11 311 yX8_add) ∈ sy_W := sy_W_of (tk_4 _ (List.mem_of_getElem? (i := 164) rfl)) rfl
theorem wm_973 : (Cond.instanceMethod yX8_add) ∈ sy_W := sy_W_of (tk_4 _ (List.mem_of_getElem? (i := 165) rfl)) rfl
theorem wm_974 : (Cond.selects RX8 yX8_add yX8_add) ∈ sy_W := sy_W_of (tk_4 _ (List.mem_of_getElem? (i := 166) rfl)) rfl
theorem wm_975 : (Cond.code yX8_add cX8_add 2 (some .int)) ∈ sy_W := sy_W_of (tk_4 _ (List.mem_of_getElem? (i := 167) rfl)) rfl
theorem wm_976 : (Cond.methodLink RL 109 yX12_see) ∈ sy_W := sy_W_of (tk_6 _ (List.mem_of_getElem? (i := 96) rfl)) rfl
theorem wm_977 : (Cond.instanceMethod yX12_see) ∈ sy_W := sy_W_of (tk_6 _ (List.mem_of_getElem? (i := 97) rfl)) rfl
theorem wm_978 : (Cond.selects RX12 yX12_see yX12_see) ∈ sy_W := sy_W_of (tk_6 _ (List.mem_of_getElem? (i := 98) rfl)) rfl
theorem wm_979 : (Cond.code yX12_see cX12_see 2 (some .int)) ∈ sy_W := sy_W_of (tk_6 _ (List.mem_of_getElem? (i := 99) rfl)) rfl
theorem wm_980 : (Cond.methodLink RL 110 yX11_who) ∈ sy_W := sy_W_of (tk_4 _ (List.mem_of_getElem? (i := 168) rfl)) rfl
theorem wm_981 : (Cond.instanceMethod yX11_who) ∈ sy_W := sy_W_of (tk_4 _ (List.mem_of_getElem? (i := 169) rfl)) rfl
theorem wm_982 : (Cond.selects RX11 yX11_who yX11_who) ∈ sy_W := sy_W_of (tk_4 _ (List.mem_of_getElem? (i := 170) rfl)) rfl
theorem wm_983 : (Cond.code yX11_who cX11_who 2 (some .int)) ∈ sy_W := sy_W_of (tk_4 _ (List.mem_of_getElem? (i := 171) rfl)) rfl
theorem wm_984 : (Cond.fieldLink RX11 315 "SkyTurns$SeenRows" "count" "I") ∈ sy_W := sy_W_of (tk_2 _ (List.mem_of_getElem? (i := 27) rfl)) rfl
theorem wm_985 : (Cond.methodLink RX11 312 yX8_find) ∈ sy_W := sy_W_of (tk_4 _ (List.mem_of_getElem? (i := 172) rfl)) rfl
theorem wm_986 : (Cond.instanceMethod yX8_find) ∈ sy_W := sy_W_of (tk_4 _ (List.mem_of_getElem? (i := 173) rfl)) rfl
theorem wm_987 : (Cond.selects RX8 yX8_find yX8_find) ∈ sy_W := sy_W_of (tk_4 _ (List.mem_of_getElem? (i := 174) rfl)) rfl
theorem wm_988 : (Cond.code yX8_find cX8_find 2 none) ∈ sy_W := sy_W_of (tk_4 _ (List.mem_of_getElem? (i := 175) rfl)) rfl
theorem wm_989 : (Cond.methodLink RX8 28 ⟨"SkyTurns$SeenRows", "tryRows", "(LSkyTurns$Sky;I)V"⟩) ∈ sy_W := sy_W_of (tk_4 _ (List.mem_of_getElem? (i := 176) rfl)) rfl
theorem wm_990 : (Cond.sameMethod "SkyTurns$SeenRows" "SkyTurns$Rows" "tryRows" "(LSkyTurns$Sky;I)V") ∈ sy_W := sy_W_of (tk_4 _ (List.mem_of_getElem? (i := 177) rfl)) rfl
theorem wm_991 : (Cond.selects RX8 ⟨"SkyTurns$SeenRows", "tryRows", "(LSkyTurns$Sky;I)V"⟩ yX7_tryRows) ∈ sy_W := sy_W_of (tk_4 _ (List.mem_of_getElem? (i := 178) rfl)) rfl
theorem wm_992 : (Cond.methodLink RX11 316 yX8_holderAt) ∈ sy_W := sy_W_of (tk_4 _ (List.mem_of_getElem? (i := 179) rfl)) rfl
theorem wm_993 : (Cond.instanceMethod yX8_holderAt) ∈ sy_W := sy_W_of (tk_4 _ (List.mem_of_getElem? (i := 180) rfl)) rfl
theorem wm_994 : (Cond.selects RX8 yX8_holderAt yX8_holderAt) ∈ sy_W := sy_W_of (tk_4 _ (List.mem_of_getElem? (i := 181) rfl)) rfl
theorem wm_995 : (Cond.code yX8_holderAt cX8_holderAt 2 (some .int)) ∈ sy_W := sy_W_of (tk_4 _ (List.mem_of_getElem? (i := 182) rfl)) rfl
theorem wm_996 : (Cond.fieldLink RX8 44 "SkyTurns$SeenRows" "hours" "I") ∈ sy_W := sy_W_of (tk_1 _ (List.mem_of_getElem? (i := 234) rfl)) rfl
theorem wm_997 : (Cond.sameField "SkyTurns$SeenRows" "SkyTurns$Rows" "hours" "I") ∈ sy_W := sy_W_of (tk_1 _ (List.mem_of_getElem? (i := 235) rfl)) rfl
theorem wm_998 : (Cond.methodLink RL 113 yX12_who) ∈ sy_W := sy_W_of (tk_6 _ (List.mem_of_getElem? (i := 100) rfl)) rfl
theorem wm_999 : (Cond.instanceMethod yX12_who) ∈ sy_W := sy_W_of (tk_6 _ (List.mem_of_getElem? (i := 101) rfl)) rfl
theorem wm_1000 : (Cond.selects RX12 yX12_who yX12_who) ∈ sy_W := sy_W_of (tk_6 _ (List.mem_of_getElem? (i := 102) rfl)) rfl
theorem wm_1001 : (Cond.code yX12_who cX12_who 5 (some .int)) ∈ sy_W := sy_W_of (tk_6 _ (List.mem_of_getElem? (i := 103) rfl)) rfl
theorem wm_1002 : (Cond.methodLink RX12 255 yX12_isAsSeen) ∈ sy_W := sy_W_of (tk_6 _ (List.mem_of_getElem? (i := 104) rfl)) rfl
theorem wm_1003 : (Cond.instanceMethod yX12_isAsSeen) ∈ sy_W := sy_W_of (tk_6 _ (List.mem_of_getElem? (i := 106) rfl)) rfl
theorem wm_1004 : (Cond.selects RX12 yX12_isAsSeen yX12_isAsSeen) ∈ sy_W := sy_W_of (tp_4 (yX12_isAsSeen, 35) (List.mem_of_getElem? (i := 12) rfl)) rfl
theorem wm_1005 : (Cond.code yX12_isAsSeen cX12_isAsSeen 2 (some .boolean)) ∈ sy_W := sy_W_of (tk_6 _ (List.mem_of_getElem? (i := 107) rfl)) rfl
theorem wm_1006 : (Cond.methodLink RL 114 yX11_sure) ∈ sy_W := sy_W_of (tk_4 _ (List.mem_of_getElem? (i := 183) rfl)) rfl
theorem wm_1007 : (Cond.instanceMethod yX11_sure) ∈ sy_W := sy_W_of (tk_4 _ (List.mem_of_getElem? (i := 184) rfl)) rfl
theorem wm_1008 : (Cond.selects RX11 yX11_sure yX11_sure) ∈ sy_W := sy_W_of (tk_4 _ (List.mem_of_getElem? (i := 185) rfl)) rfl
theorem wm_1009 : (Cond.code yX11_sure cX11_sure 1 (some .int)) ∈ sy_W := sy_W_of (tk_4 _ (List.mem_of_getElem? (i := 186) rfl)) rfl
theorem wm_1010 : (Cond.fieldLink RX11 317 "SkyTurns$SeenRows" "common" "I") ∈ sy_W := sy_W_of (tk_2 _ (List.mem_of_getElem? (i := 29) rfl)) rfl
theorem wm_1011 : (Cond.methodLink RL 117 yX12_sure) ∈ sy_W := sy_W_of (tk_6 _ (List.mem_of_getElem? (i := 108) rfl)) rfl
theorem wm_1012 : (Cond.instanceMethod yX12_sure) ∈ sy_W := sy_W_of (tk_6 _ (List.mem_of_getElem? (i := 109) rfl)) rfl
theorem wm_1013 : (Cond.selects RX12 yX12_sure yX12_sure) ∈ sy_W := sy_W_of (tk_6 _ (List.mem_of_getElem? (i := 110) rfl)) rfl
theorem wm_1014 : (Cond.code yX12_sure cX12_sure 6 (some .int)) ∈ sy_W := sy_W_of (tk_6 _ (List.mem_of_getElem? (i := 111) rfl)) rfl
theorem wm_1015 : (Cond.methodLink RL 118 yX11_write) ∈ sy_W := sy_W_of (tk_4 _ (List.mem_of_getElem? (i := 187) rfl)) rfl
theorem wm_1016 : (Cond.instanceMethod yX11_write) ∈ sy_W := sy_W_of (tk_4 _ (List.mem_of_getElem? (i := 188) rfl)) rfl
theorem wm_1017 : (Cond.selects RX11 yX11_write yX11_write) ∈ sy_W := sy_W_of (tk_4 _ (List.mem_of_getElem? (i := 189) rfl)) rfl
theorem wm_1018 : (Cond.code yX11_write cX11_write 4 (some .int)) ∈ sy_W := sy_W_of (tk_4 _ (List.mem_of_getElem? (i := 190) rfl)) rfl
theorem wm_1019 : (Cond.methodLink RX11 320 yX0_add) ∈ sy_W := sy_W_of (tk_4 _ (List.mem_of_getElem? (i := 191) rfl)) rfl
theorem wm_1020 : (Cond.instanceMethod yX0_add) ∈ sy_W := sy_W_of (tk_4 _ (List.mem_of_getElem? (i := 192) rfl)) rfl
theorem wm_1021 : (Cond.selects RX0 yX0_add yX0_add) ∈ sy_W := sy_W_of (tk_4 _ (List.mem_of_getElem? (i := 193) rfl)) rfl
theorem wm_1022 : (Cond.code yX0_add cX0_add 4 (some .int)) ∈ sy_W := sy_W_of (tk_4 _ (List.mem_of_getElem? (i := 194) rfl)) rfl
theorem wm_1023 : (Cond.methodLink RL 122 yX12_write) ∈ sy_W := sy_W_of (tk_6 _ (List.mem_of_getElem? (i := 112) rfl)) rfl
theorem wm_1024 : (Cond.instanceMethod yX12_write) ∈ sy_W := sy_W_of (tk_6 _ (List.mem_of_getElem? (i := 113) rfl)) rfl
theorem wm_1025 : (Cond.selects RX12 yX12_write yX12_write) ∈ sy_W := sy_W_of (tk_6 _ (List.mem_of_getElem? (i := 114) rfl)) rfl
theorem wm_1026 : (Cond.code yX12_write cX12_write 4 (some .int)) ∈ sy_W := sy_W_of (tk_6 _ (List.mem_of_getElem? (i := 115) rfl)) rfl
theorem wm_1027 : (Cond.methodLink RL 123 yX11_judge) ∈ sy_W := sy_W_of (tk_4 _ (List.mem_of_getElem? (i := 195) rfl)) rfl
theorem wm_1028 : (Cond.instanceMethod yX11_judge) ∈ sy_W := sy_W_of (tk_4 _ (List.mem_of_getElem? (i := 196) rfl)) rfl
theorem wm_1029 : (Cond.selects RX11 yX11_judge yX11_judge) ∈ sy_W := sy_W_of (tk_4 _ (List.mem_of_getElem? (i := 197) rfl)) rfl
theorem wm_1030 : (Cond.code yX11_judge cX11_judge 1 (some .int)) ∈ sy_W := sy_W_of (tk_4 _ (List.mem_of_getElem? (i := 198) rfl)) rfl
theorem wm_1031 : (Cond.methodLink RX11 325 yX0_firstWrong) ∈ sy_W := sy_W_of (tk_4 _ (List.mem_of_getElem? (i := 199) rfl)) rfl
theorem wm_1032 : (Cond.instanceMethod yX0_firstWrong) ∈ sy_W := sy_W_of (tk_4 _ (List.mem_of_getElem? (i := 200) rfl)) rfl
theorem wm_1033 : (Cond.selects RX0 yX0_firstWrong yX0_firstWrong) ∈ sy_W := sy_W_of (tk_4 _ (List.mem_of_getElem? (i := 201) rfl)) rfl
theorem wm_1034 : (Cond.code yX0_firstWrong cX0_firstWrong 3 (some .int)) ∈ sy_W := sy_W_of (tk_4 _ (List.mem_of_getElem? (i := 202) rfl)) rfl
theorem wm_1035 : (Cond.methodLink RX0 26 yX10_isHolding) ∈ sy_W := sy_W_of (tk_4 _ (List.mem_of_getElem? (i := 203) rfl)) rfl
theorem wm_1036 : (Cond.methodLink RX0 32 yX10_trick) ∈ sy_W := sy_W_of (tk_4 _ (List.mem_of_getElem? (i := 204) rfl)) rfl
theorem wm_1037 : (Cond.methodLink RL 126 yX12_judge) ∈ sy_W := sy_W_of (tk_6 _ (List.mem_of_getElem? (i := 116) rfl)) rfl
theorem wm_1038 : (Cond.instanceMethod yX12_judge) ∈ sy_W := sy_W_of (tk_6 _ (List.mem_of_getElem? (i := 117) rfl)) rfl
theorem wm_1039 : (Cond.selects RX12 yX12_judge yX12_judge) ∈ sy_W := sy_W_of (tk_6 _ (List.mem_of_getElem? (i := 118) rfl)) rfl
theorem wm_1040 : (Cond.code yX12_judge cX12_judge 3 (some .int)) ∈ sy_W := sy_W_of (tk_6 _ (List.mem_of_getElem? (i := 119) rfl)) rfl
theorem wm_1041 : (Cond.methodLink RL 127 yX11_tear) ∈ sy_W := sy_W_of (tk_4 _ (List.mem_of_getElem? (i := 205) rfl)) rfl
theorem wm_1042 : (Cond.instanceMethod yX11_tear) ∈ sy_W := sy_W_of (tk_4 _ (List.mem_of_getElem? (i := 206) rfl)) rfl
theorem wm_1043 : (Cond.selects RX11 yX11_tear yX11_tear) ∈ sy_W := sy_W_of (tk_4 _ (List.mem_of_getElem? (i := 207) rfl)) rfl
theorem wm_1044 : (Cond.code yX11_tear cX11_tear 2 (some .int)) ∈ sy_W := sy_W_of (tk_4 _ (List.mem_of_getElem? (i := 208) rfl)) rfl
theorem wm_1045 : (Cond.methodLink RL 130 yX12_tear) ∈ sy_W := sy_W_of (tk_6 _ (List.mem_of_getElem? (i := 120) rfl)) rfl
theorem wm_1046 : (Cond.instanceMethod yX12_tear) ∈ sy_W := sy_W_of (tk_6 _ (List.mem_of_getElem? (i := 121) rfl)) rfl
theorem wm_1047 : (Cond.selects RX12 yX12_tear yX12_tear) ∈ sy_W := sy_W_of (tk_6 _ (List.mem_of_getElem? (i := 122) rfl)) rfl
theorem wm_1048 : (Cond.code yX12_tear cX12_tear 2 (some .int)) ∈ sy_W := sy_W_of (tk_6 _ (List.mem_of_getElem? (i := 123) rfl)) rfl
theorem wm_1049 : (Cond.methodLink RL 131 yX11_seed) ∈ sy_W := sy_W_of (tk_4 _ (List.mem_of_getElem? (i := 209) rfl)) rfl
theorem wm_1050 : (Cond.instanceMethod yX11_seed) ∈ sy_W := sy_W_of (tk_4 _ (List.mem_of_getElem? (i := 210) rfl)) rfl
theorem wm_1051 : (Cond.selects RX11 yX11_seed yX11_seed) ∈ sy_W := sy_W_of (tk_4 _ (List.mem_of_getElem? (i := 211) rfl)) rfl
theorem wm_1052 : (Cond.code yX11_seed cX11_seed 3 (some .int)) ∈ sy_W := sy_W_of (tk_4 _ (List.mem_of_getElem? (i := 212) rfl)) rfl
theorem wm_1053 : (Cond.methodLink RL 134 yX12_seed) ∈ sy_W := sy_W_of (tk_6 _ (List.mem_of_getElem? (i := 124) rfl)) rfl
theorem wm_1054 : (Cond.instanceMethod yX12_seed) ∈ sy_W := sy_W_of (tk_6 _ (List.mem_of_getElem? (i := 125) rfl)) rfl
theorem wm_1055 : (Cond.selects RX12 yX12_seed yX12_seed) ∈ sy_W := sy_W_of (tk_6 _ (List.mem_of_getElem? (i := 126) rfl)) rfl
theorem wm_1056 : (Cond.code yX12_seed cX12_seed 3 (some .int)) ∈ sy_W := sy_W_of (tk_6 _ (List.mem_of_getElem? (i := 127) rfl)) rfl
theorem wm_1057 : (Cond.methodLink RL 135 yX11_keep) ∈ sy_W := sy_W_of (tk_4 _ (List.mem_of_getElem? (i := 213) rfl)) rfl
theorem wm_1058 : (Cond.instanceMethod yX11_keep) ∈ sy_W := sy_W_of (tk_4 _ (List.mem_of_getElem? (i := 214) rfl)) rfl
theorem wm_1059 : (Cond.selects RX11 yX11_keep yX11_keep) ∈ sy_W := sy_W_of (tk_4 _ (List.mem_of_getElem? (i := 215) rfl)) rfl
theorem wm_1060 : (Cond.code yX11_keep cX11_keep 2 (some .int)) ∈ sy_W := sy_W_of (tk_4 _ (List.mem_of_getElem? (i := 216) rfl)) rfl
theorem wm_1061 : (Cond.methodLink RX11 328 yX11_isImage) ∈ sy_W := sy_W_of (tk_4 _ (List.mem_of_getElem? (i := 217) rfl)) rfl
theorem wm_1062 : (Cond.static yX11_isImage) ∈ sy_W := sy_W_of (tk_4 _ (List.mem_of_getElem? (i := 218) rfl)) rfl
theorem wm_1063 : (Cond.code yX11_isImage cX11_isImage 1 (some .boolean)) ∈ sy_W := sy_W_of (tk_4 _ (List.mem_of_getElem? (i := 219) rfl)) rfl
theorem wm_1064 : (Cond.methodLink RL 138 yX12_keep) ∈ sy_W := sy_W_of (tk_6 _ (List.mem_of_getElem? (i := 128) rfl)) rfl
theorem wm_1065 : (Cond.instanceMethod yX12_keep) ∈ sy_W := sy_W_of (tk_6 _ (List.mem_of_getElem? (i := 129) rfl)) rfl
theorem wm_1066 : (Cond.selects RX12 yX12_keep yX12_keep) ∈ sy_W := sy_W_of (tk_6 _ (List.mem_of_getElem? (i := 130) rfl)) rfl
theorem wm_1067 : (Cond.code yX12_keep cX12_keep 2 (some .int)) ∈ sy_W := sy_W_of (tk_6 _ (List.mem_of_getElem? (i := 131) rfl)) rfl
theorem wm_1068 : (Cond.methodLink RL 139 yX11_goBack) ∈ sy_W := sy_W_of (tk_4 _ (List.mem_of_getElem? (i := 220) rfl)) rfl
theorem wm_1069 : (Cond.instanceMethod yX11_goBack) ∈ sy_W := sy_W_of (tk_4 _ (List.mem_of_getElem? (i := 221) rfl)) rfl
theorem wm_1070 : (Cond.selects RX11 yX11_goBack yX11_goBack) ∈ sy_W := sy_W_of (tk_4 _ (List.mem_of_getElem? (i := 222) rfl)) rfl
theorem wm_1071 : (Cond.code yX11_goBack cX11_goBack 2 (some .int)) ∈ sy_W := sy_W_of (tk_4 _ (List.mem_of_getElem? (i := 223) rfl)) rfl
theorem wm_1072 : (Cond.methodLink RL 142 yX12_goBack) ∈ sy_W := sy_W_of (tk_6 _ (List.mem_of_getElem? (i := 132) rfl)) rfl
theorem wm_1073 : (Cond.instanceMethod yX12_goBack) ∈ sy_W := sy_W_of (tk_6 _ (List.mem_of_getElem? (i := 133) rfl)) rfl
theorem wm_1074 : (Cond.selects RX12 yX12_goBack yX12_goBack) ∈ sy_W := sy_W_of (tk_6 _ (List.mem_of_getElem? (i := 134) rfl)) rfl
theorem wm_1075 : (Cond.code yX12_goBack cX12_goBack 2 (some .int)) ∈ sy_W := sy_W_of (tk_6 _ (List.mem_of_getElem? (i := 135) rfl)) rfl
theorem wl_0_0 : (Cond.laysFinal RX0 "SkyTurns$Book" "persons" "[I") ∈ sy_W := sy_W_of (tk_2 _ (List.mem_of_getElem? (i := 83) rfl)) rfl
theorem wl_0_1 : (Cond.laysFinal RX0 "SkyTurns$Book" "wordsTold" "[I") ∈ sy_W := sy_W_of (tk_2 _ (List.mem_of_getElem? (i := 85) rfl)) rfl
theorem wl_0_2 : (Cond.laysFinal RX0 "SkyTurns$Book" "taken" "[Z") ∈ sy_W := sy_W_of (tk_2 _ (List.mem_of_getElem? (i := 87) rfl)) rfl
theorem wl_0_3 : (Cond.lays RX0 "SkyTurns$Book" "lines" "I") ∈ sy_W := sy_W_of (tk_2 _ (List.mem_of_getElem? (i := 89) rfl)) rfl
theorem inW0 : ∀ w ∈ wsX00, w ∈ sy_W := by
  intro w h
  obtain ⟨k, hk, rfl⟩ := List.mem_map.mp h
  have hk := List.mem_range.mp hk
  match k, hk with
  | 0, _ => exact wl_0_0
  | 1, _ => exact wl_0_1
  | 2, _ => exact wl_0_2
  | 3, _ => exact wl_0_3
  | k + 4, hk => exact absurd hk (by omega)
theorem wl_1_0 : (Cond.laysFinal RX1 "SkyTurns$Chain" "told" "LSkyTurns$Edge;") ∈ sy_W := sy_W_of (tk_2 _ (List.mem_of_getElem? (i := 59) rfl)) rfl
theorem wl_1_1 : (Cond.laysFinal RX1 "SkyTurns$Chain" "falls" "[Z") ∈ sy_W := sy_W_of (tk_2 _ (List.mem_of_getElem? (i := 61) rfl)) rfl
theorem wl_1_2 : (Cond.laysFinal RX1 "SkyTurns$Chain" "starts" "[Z") ∈ sy_W := sy_W_of (tk_2 _ (List.mem_of_getElem? (i := 63) rfl)) rfl
theorem wl_1_3 : (Cond.laysFinal RX1 "SkyTurns$Chain" "stepsLeft" "[I") ∈ sy_W := sy_W_of (tk_2 _ (List.mem_of_getElem? (i := 65) rfl)) rfl
theorem wl_1_4 : (Cond.laysFinal RX1 "SkyTurns$Chain" "way" "[I") ∈ sy_W := sy_W_of (tk_2 _ (List.mem_of_getElem? (i := 67) rfl)) rfl
theorem wl_1_5 : (Cond.lays RX1 "SkyTurns$Chain" "length" "I") ∈ sy_W := sy_W_of (tk_2 _ (List.mem_of_getElem? (i := 69) rfl)) rfl
theorem inW1 : ∀ w ∈ wsX10, w ∈ sy_W := by
  intro w h
  obtain ⟨k, hk, rfl⟩ := List.mem_map.mp h
  have hk := List.mem_range.mp hk
  match k, hk with
  | 0, _ => exact wl_1_0
  | 1, _ => exact wl_1_1
  | 2, _ => exact wl_1_2
  | 3, _ => exact wl_1_3
  | 4, _ => exact wl_1_4
  | 5, _ => exact wl_1_5
  | k + 6, hk => exact absurd hk (by omega)
theorem wl_2_0 : (Cond.laysFinal RX2 "SkyTurns$Debts" "told" "LSkyTurns$Edge;") ∈ sy_W := sy_W_of (tk_2 _ (List.mem_of_getElem? (i := 101) rfl)) rfl
theorem wl_2_1 : (Cond.laysFinal RX2 "SkyTurns$Debts" "sums" "[I") ∈ sy_W := sy_W_of (tk_2 _ (List.mem_of_getElem? (i := 103) rfl)) rfl
theorem wl_2_2 : (Cond.laysFinal RX2 "SkyTurns$Debts" "groups" "[I") ∈ sy_W := sy_W_of (tk_2 _ (List.mem_of_getElem? (i := 105) rfl)) rfl
theorem inW2 : ∀ w ∈ wsX20, w ∈ sy_W := by
  intro w h
  obtain ⟨k, hk, rfl⟩ := List.mem_map.mp h
  have hk := List.mem_range.mp hk
  match k, hk with
  | 0, _ => exact wl_2_0
  | 1, _ => exact wl_2_1
  | 2, _ => exact wl_2_2
  | k + 3, hk => exact absurd hk (by omega)
theorem wl_3_0 : (Cond.laysFinal RX3 "SkyTurns$Edge" "weights" "[I") ∈ sy_W := sy_W_of (tk_1 _ (List.mem_of_getElem? (i := 69) rfl)) rfl
theorem wl_3_1 : (Cond.laysFinal RX3 "SkyTurns$Edge" "kind" "[I") ∈ sy_W := sy_W_of (tk_1 _ (List.mem_of_getElem? (i := 71) rfl)) rfl
theorem wl_3_2 : (Cond.laysFinal RX3 "SkyTurns$Edge" "strength" "[I") ∈ sy_W := sy_W_of (tk_1 _ (List.mem_of_getElem? (i := 73) rfl)) rfl
theorem wl_3_3 : (Cond.laysFinal RX3 "SkyTurns$Edge" "height" "[I") ∈ sy_W := sy_W_of (tk_1 _ (List.mem_of_getElem? (i := 75) rfl)) rfl
theorem wl_3_4 : (Cond.laysFinal RX3 "SkyTurns$Edge" "wits" "[I") ∈ sy_W := sy_W_of (tk_1 _ (List.mem_of_getElem? (i := 77) rfl)) rfl
theorem wl_3_5 : (Cond.laysFinal RX3 "SkyTurns$Edge" "father" "[I") ∈ sy_W := sy_W_of (tk_1 _ (List.mem_of_getElem? (i := 79) rfl)) rfl
theorem wl_3_6 : (Cond.laysFinal RX3 "SkyTurns$Edge" "goodness" "[I") ∈ sy_W := sy_W_of (tk_1 _ (List.mem_of_getElem? (i := 81) rfl)) rfl
theorem wl_3_7 : (Cond.lays RX3 "SkyTurns$Edge" "weightCount" "I") ∈ sy_W := sy_W_of (tk_1 _ (List.mem_of_getElem? (i := 83) rfl)) rfl
theorem wl_3_8 : (Cond.lays RX3 "SkyTurns$Edge" "people" "I") ∈ sy_W := sy_W_of (tk_1 _ (List.mem_of_getElem? (i := 85) rfl)) rfl
theorem wl_3_9 : (Cond.lays RX3 "SkyTurns$Edge" "firstFruit" "I") ∈ sy_W := sy_W_of (tk_1 _ (List.mem_of_getElem? (i := 87) rfl)) rfl
theorem inW3 : ∀ w ∈ wsX30, w ∈ sy_W := by
  intro w h
  obtain ⟨k, hk, rfl⟩ := List.mem_map.mp h
  have hk := List.mem_range.mp hk
  match k, hk with
  | 0, _ => exact wl_3_0
  | 1, _ => exact wl_3_1
  | 2, _ => exact wl_3_2
  | 3, _ => exact wl_3_3
  | 4, _ => exact wl_3_4
  | 5, _ => exact wl_3_5
  | 6, _ => exact wl_3_6
  | 7, _ => exact wl_3_7
  | 8, _ => exact wl_3_8
  | 9, _ => exact wl_3_9
  | k + 10, hk => exact absurd hk (by omega)
theorem wl_4_0 : (Cond.lays RX4 "SkyTurns$Game" "said0Thought0" "I") ∈ sy_W := sy_W_of (tk_2 _ (List.mem_of_getElem? (i := 126) rfl)) rfl
theorem wl_4_1 : (Cond.lays RX4 "SkyTurns$Game" "said0Thought1" "I") ∈ sy_W := sy_W_of (tk_2 _ (List.mem_of_getElem? (i := 128) rfl)) rfl
theorem wl_4_2 : (Cond.lays RX4 "SkyTurns$Game" "said1Thought0" "I") ∈ sy_W := sy_W_of (tk_2 _ (List.mem_of_getElem? (i := 130) rfl)) rfl
theorem wl_4_3 : (Cond.lays RX4 "SkyTurns$Game" "said1Thought1" "I") ∈ sy_W := sy_W_of (tk_2 _ (List.mem_of_getElem? (i := 132) rfl)) rfl
theorem wl_4_4 : (Cond.lays RX4 "SkyTurns$Game" "valueAbove" "I") ∈ sy_W := sy_W_of (tk_2 _ (List.mem_of_getElem? (i := 134) rfl)) rfl
theorem wl_4_5 : (Cond.lays RX4 "SkyTurns$Game" "valueBelow" "I") ∈ sy_W := sy_W_of (tk_2 _ (List.mem_of_getElem? (i := 136) rfl)) rfl
theorem wl_4_6 : (Cond.lays RX4 "SkyTurns$Game" "oddsAbove" "I") ∈ sy_W := sy_W_of (tk_2 _ (List.mem_of_getElem? (i := 138) rfl)) rfl
theorem wl_4_7 : (Cond.lays RX4 "SkyTurns$Game" "oddsBelow" "I") ∈ sy_W := sy_W_of (tk_2 _ (List.mem_of_getElem? (i := 140) rfl)) rfl
theorem inW4 : ∀ w ∈ wsX40, w ∈ sy_W := by
  intro w h
  obtain ⟨k, hk, rfl⟩ := List.mem_map.mp h
  have hk := List.mem_range.mp hk
  match k, hk with
  | 0, _ => exact wl_4_0
  | 1, _ => exact wl_4_1
  | 2, _ => exact wl_4_2
  | 3, _ => exact wl_4_3
  | 4, _ => exact wl_4_4
  | 5, _ => exact wl_4_5
  | 6, _ => exact wl_4_6
  | 7, _ => exact wl_4_7
  | k + 8, hk => exact absurd hk (by omega)
theorem wl_5_0 : (Cond.laysFinal RX5 "SkyTurns$Past" "skies" "[LSkyTurns$Sky;") ∈ sy_W := sy_W_of (tk_1 _ (List.mem_of_getElem? (i := 199) rfl)) rfl
theorem wl_5_1 : (Cond.lays RX5 "SkyTurns$Past" "count" "I") ∈ sy_W := sy_W_of (tk_1 _ (List.mem_of_getElem? (i := 201) rfl)) rfl
theorem wl_5_2 : (Cond.lays RX5 "SkyTurns$Past" "next" "I") ∈ sy_W := sy_W_of (tk_1 _ (List.mem_of_getElem? (i := 203) rfl)) rfl
theorem inW5 : ∀ w ∈ wsX50, w ∈ sy_W := by
  intro w h
  obtain ⟨k, hk, rfl⟩ := List.mem_map.mp h
  have hk := List.mem_range.mp hk
  match k, hk with
  | 0, _ => exact wl_5_0
  | 1, _ => exact wl_5_1
  | 2, _ => exact wl_5_2
  | k + 3, hk => exact absurd hk (by omega)
theorem wl_6_0 : (Cond.laysFinal RX6 "SkyTurns$Reader" "letters" "[I") ∈ sy_W := sy_W_of (tk_1 _ (List.mem_of_getElem? (i := 168) rfl)) rfl
theorem wl_6_1 : (Cond.laysFinal RX6 "SkyTurns$Reader" "draft" "LSkyTurns$Edge;") ∈ sy_W := sy_W_of (tk_1 _ (List.mem_of_getElem? (i := 170) rfl)) rfl
theorem wl_6_2 : (Cond.lays RX6 "SkyTurns$Reader" "length" "I") ∈ sy_W := sy_W_of (tk_1 _ (List.mem_of_getElem? (i := 172) rfl)) rfl
theorem wl_6_3 : (Cond.lays RX6 "SkyTurns$Reader" "faultKind" "I") ∈ sy_W := sy_W_of (tk_1 _ (List.mem_of_getElem? (i := 174) rfl)) rfl
theorem wl_6_4 : (Cond.lays RX6 "SkyTurns$Reader" "faultAt" "I") ∈ sy_W := sy_W_of (tk_1 _ (List.mem_of_getElem? (i := 176) rfl)) rfl
theorem wl_6_5 : (Cond.lays RX6 "SkyTurns$Reader" "at" "I") ∈ sy_W := sy_W_of (tk_1 _ (List.mem_of_getElem? (i := 178) rfl)) rfl
theorem wl_6_6 : (Cond.lays RX6 "SkyTurns$Reader" "numberAt" "I") ∈ sy_W := sy_W_of (tk_1 _ (List.mem_of_getElem? (i := 180) rfl)) rfl
theorem wl_6_7 : (Cond.lays RX6 "SkyTurns$Reader" "goodnessTold" "Z") ∈ sy_W := sy_W_of (tk_1 _ (List.mem_of_getElem? (i := 182) rfl)) rfl
theorem wl_6_8 : (Cond.lays RX6 "SkyTurns$Reader" "fruitTold" "Z") ∈ sy_W := sy_W_of (tk_1 _ (List.mem_of_getElem? (i := 184) rfl)) rfl
theorem inW6 : ∀ w ∈ wsX60, w ∈ sy_W := by
  intro w h
  obtain ⟨k, hk, rfl⟩ := List.mem_map.mp h
  have hk := List.mem_range.mp hk
  match k, hk with
  | 0, _ => exact wl_6_0
  | 1, _ => exact wl_6_1
  | 2, _ => exact wl_6_2
  | 3, _ => exact wl_6_3
  | 4, _ => exact wl_6_4
  | 5, _ => exact wl_6_5
  | 6, _ => exact wl_6_6
  | 7, _ => exact wl_6_7
  | 8, _ => exact wl_6_8
  | k + 9, hk => exact absurd hk (by omega)
theorem wl_8_0 : (Cond.laysFinal RX8 "SkyTurns$Rows" "told" "LSkyTurns$Edge;") ∈ sy_W := sy_W_of (tk_2 _ (List.mem_of_getElem? (i := 40) rfl)) rfl
theorem wl_8_1 : (Cond.laysFinal RX8 "SkyTurns$Rows" "levels" "[LSkyTurns$Sky;") ∈ sy_W := sy_W_of (tk_2 _ (List.mem_of_getElem? (i := 41) rfl)) rfl
theorem wl_8_2 : (Cond.laysFinal RX8 "SkyTurns$Rows" "row" "[I") ∈ sy_W := sy_W_of (tk_2 _ (List.mem_of_getElem? (i := 42) rfl)) rfl
theorem wl_8_3 : (Cond.laysFinal RX8 "SkyTurns$Rows" "hoursOf" "[I") ∈ sy_W := sy_W_of (tk_2 _ (List.mem_of_getElem? (i := 43) rfl)) rfl
theorem wl_8_4 : (Cond.lays RX8 "SkyTurns$Rows" "hours" "I") ∈ sy_W := sy_W_of (tk_2 _ (List.mem_of_getElem? (i := 44) rfl)) rfl
theorem wl_8_5 : (Cond.laysFinal RX8 "SkyTurns$SeenRows" "seen" "[I") ∈ sy_W := sy_W_of (tk_2 _ (List.mem_of_getElem? (i := 30) rfl)) rfl
theorem wl_8_6 : (Cond.laysFinal RX8 "SkyTurns$SeenRows" "firstRow" "[I") ∈ sy_W := sy_W_of (tk_2 _ (List.mem_of_getElem? (i := 32) rfl)) rfl
theorem wl_8_7 : (Cond.lays RX8 "SkyTurns$SeenRows" "seenCount" "I") ∈ sy_W := sy_W_of (tk_2 _ (List.mem_of_getElem? (i := 34) rfl)) rfl
theorem wl_8_8 : (Cond.lays RX8 "SkyTurns$SeenRows" "count" "I") ∈ sy_W := sy_W_of (tk_2 _ (List.mem_of_getElem? (i := 36) rfl)) rfl
theorem wl_8_9 : (Cond.lays RX8 "SkyTurns$SeenRows" "common" "I") ∈ sy_W := sy_W_of (tk_2 _ (List.mem_of_getElem? (i := 38) rfl)) rfl
theorem inW8 : ∀ w ∈ wsX80, w ∈ sy_W := by
  intro w h
  obtain ⟨k, hk, rfl⟩ := List.mem_map.mp h
  have hk := List.mem_range.mp hk
  match k, hk with
  | 0, _ => exact wl_8_0
  | 1, _ => exact wl_8_1
  | 2, _ => exact wl_8_2
  | 3, _ => exact wl_8_3
  | 4, _ => exact wl_8_4
  | 5, _ => exact wl_8_5
  | 6, _ => exact wl_8_6
  | 7, _ => exact wl_8_7
  | 8, _ => exact wl_8_8
  | 9, _ => exact wl_8_9
  | k + 10, hk => exact absurd hk (by omega)
theorem wl_9_0 : (Cond.laysFinal RX9 "SkyTurns$Rows" "told" "LSkyTurns$Edge;") ∈ sy_W := sy_W_of (tk_2 _ (List.mem_of_getElem? (i := 4) rfl)) rfl
theorem wl_9_1 : (Cond.laysFinal RX9 "SkyTurns$Rows" "levels" "[LSkyTurns$Sky;") ∈ sy_W := sy_W_of (tk_2 _ (List.mem_of_getElem? (i := 6) rfl)) rfl
theorem wl_9_2 : (Cond.laysFinal RX9 "SkyTurns$Rows" "row" "[I") ∈ sy_W := sy_W_of (tk_2 _ (List.mem_of_getElem? (i := 8) rfl)) rfl
theorem wl_9_3 : (Cond.laysFinal RX9 "SkyTurns$Rows" "hoursOf" "[I") ∈ sy_W := sy_W_of (tk_2 _ (List.mem_of_getElem? (i := 10) rfl)) rfl
theorem wl_9_4 : (Cond.lays RX9 "SkyTurns$Rows" "hours" "I") ∈ sy_W := sy_W_of (tk_2 _ (List.mem_of_getElem? (i := 12) rfl)) rfl
theorem wl_9_5 : (Cond.laysFinal RX9 "SkyTurns$ShiftRows" "bestRow" "[I") ∈ sy_W := sy_W_of (tk_1 _ (List.mem_of_getElem? (i := 236) rfl)) rfl
theorem wl_9_6 : (Cond.lays RX9 "SkyTurns$ShiftRows" "best" "I") ∈ sy_W := sy_W_of (tk_1 _ (List.mem_of_getElem? (i := 238) rfl)) rfl
theorem wl_9_7 : (Cond.lays RX9 "SkyTurns$ShiftRows" "deepest" "I") ∈ sy_W := sy_W_of (tk_2 _ (List.mem_of_getElem? (i := 0) rfl)) rfl
theorem wl_9_8 : (Cond.lays RX9 "SkyTurns$ShiftRows" "limit" "I") ∈ sy_W := sy_W_of (tk_2 _ (List.mem_of_getElem? (i := 2) rfl)) rfl
theorem inW9 : ∀ w ∈ wsX90, w ∈ sy_W := by
  intro w h
  obtain ⟨k, hk, rfl⟩ := List.mem_map.mp h
  have hk := List.mem_range.mp hk
  match k, hk with
  | 0, _ => exact wl_9_0
  | 1, _ => exact wl_9_1
  | 2, _ => exact wl_9_2
  | 3, _ => exact wl_9_3
  | 4, _ => exact wl_9_4
  | 5, _ => exact wl_9_5
  | 6, _ => exact wl_9_6
  | 7, _ => exact wl_9_7
  | 8, _ => exact wl_9_8
  | k + 9, hk => exact absurd hk (by omega)
theorem wl_10_0 : (Cond.laysFinal RX10 "SkyTurns$Sky" "told" "LSkyTurns$Edge;") ∈ sy_W := sy_W_of (tk_1 _ (List.mem_of_getElem? (i := 124) rfl)) rfl
theorem wl_10_1 : (Cond.laysFinal RX10 "SkyTurns$Sky" "tired" "[I") ∈ sy_W := sy_W_of (tk_1 _ (List.mem_of_getElem? (i := 126) rfl)) rfl
theorem wl_10_2 : (Cond.laysFinal RX10 "SkyTurns$Sky" "held" "[I") ∈ sy_W := sy_W_of (tk_1 _ (List.mem_of_getElem? (i := 128) rfl)) rfl
theorem wl_10_3 : (Cond.laysFinal RX10 "SkyTurns$Sky" "unbroken" "[I") ∈ sy_W := sy_W_of (tk_1 _ (List.mem_of_getElem? (i := 130) rfl)) rfl
theorem wl_10_4 : (Cond.laysFinal RX10 "SkyTurns$Sky" "fallen" "[I") ∈ sy_W := sy_W_of (tk_1 _ (List.mem_of_getElem? (i := 132) rfl)) rfl
theorem wl_10_5 : (Cond.lays RX10 "SkyTurns$Sky" "clock" "I") ∈ sy_W := sy_W_of (tk_1 _ (List.mem_of_getElem? (i := 134) rfl)) rfl
theorem wl_10_6 : (Cond.lays RX10 "SkyTurns$Sky" "low" "I") ∈ sy_W := sy_W_of (tk_1 _ (List.mem_of_getElem? (i := 136) rfl)) rfl
theorem wl_10_7 : (Cond.lays RX10 "SkyTurns$Sky" "harm" "I") ∈ sy_W := sy_W_of (tk_1 _ (List.mem_of_getElem? (i := 138) rfl)) rfl
theorem wl_10_8 : (Cond.lays RX10 "SkyTurns$Sky" "fruitLeft" "I") ∈ sy_W := sy_W_of (tk_1 _ (List.mem_of_getElem? (i := 140) rfl)) rfl
theorem wl_10_9 : (Cond.lays RX10 "SkyTurns$Sky" "holder" "I") ∈ sy_W := sy_W_of (tk_1 _ (List.mem_of_getElem? (i := 142) rfl)) rfl
theorem wl_10_10 : (Cond.lays RX10 "SkyTurns$Sky" "beside" "I") ∈ sy_W := sy_W_of (tk_1 _ (List.mem_of_getElem? (i := 144) rfl)) rfl
theorem inW10 : ∀ w ∈ wsX100, w ∈ sy_W := by
  intro w h
  obtain ⟨k, hk, rfl⟩ := List.mem_map.mp h
  have hk := List.mem_range.mp hk
  match k, hk with
  | 0, _ => exact wl_10_0
  | 1, _ => exact wl_10_1
  | 2, _ => exact wl_10_2
  | 3, _ => exact wl_10_3
  | 4, _ => exact wl_10_4
  | 5, _ => exact wl_10_5
  | 6, _ => exact wl_10_6
  | 7, _ => exact wl_10_7
  | 8, _ => exact wl_10_8
  | 9, _ => exact wl_10_9
  | 10, _ => exact wl_10_10
  | k + 11, hk => exact absurd hk (by omega)
theorem wl_11_0 : (Cond.laysFinal RX11 "SkyTurns" "told" "LSkyTurns$Edge;") ∈ sy_W := sy_W_of (tk_2 _ (List.mem_of_getElem? (i := 159) rfl)) rfl
theorem wl_11_1 : (Cond.laysFinal RX11 "SkyTurns" "reader" "LSkyTurns$Reader;") ∈ sy_W := sy_W_of (tk_2 _ (List.mem_of_getElem? (i := 161) rfl)) rfl
theorem wl_11_2 : (Cond.laysFinal RX11 "SkyTurns" "now" "LSkyTurns$Sky;") ∈ sy_W := sy_W_of (tk_2 _ (List.mem_of_getElem? (i := 163) rfl)) rfl
theorem wl_11_3 : (Cond.laysFinal RX11 "SkyTurns" "trial" "LSkyTurns$Sky;") ∈ sy_W := sy_W_of (tk_2 _ (List.mem_of_getElem? (i := 165) rfl)) rfl
theorem wl_11_4 : (Cond.laysFinal RX11 "SkyTurns" "past" "LSkyTurns$Past;") ∈ sy_W := sy_W_of (tk_2 _ (List.mem_of_getElem? (i := 167) rfl)) rfl
theorem wl_11_5 : (Cond.laysFinal RX11 "SkyTurns" "images" "[LSkyTurns$Sky;") ∈ sy_W := sy_W_of (tk_2 _ (List.mem_of_getElem? (i := 169) rfl)) rfl
theorem wl_11_6 : (Cond.laysFinal RX11 "SkyTurns" "imageKept" "[Z") ∈ sy_W := sy_W_of (tk_2 _ (List.mem_of_getElem? (i := 171) rfl)) rfl
theorem wl_11_7 : (Cond.laysFinal RX11 "SkyTurns" "imageSeed" "[I") ∈ sy_W := sy_W_of (tk_2 _ (List.mem_of_getElem? (i := 173) rfl)) rfl
theorem wl_11_8 : (Cond.laysFinal RX11 "SkyTurns" "shiftRows" "LSkyTurns$ShiftRows;") ∈ sy_W := sy_W_of (tk_2 _ (List.mem_of_getElem? (i := 175) rfl)) rfl
theorem wl_11_9 : (Cond.laysFinal RX11 "SkyTurns" "seenRows" "LSkyTurns$SeenRows;") ∈ sy_W := sy_W_of (tk_2 _ (List.mem_of_getElem? (i := 177) rfl)) rfl
theorem wl_11_10 : (Cond.laysFinal RX11 "SkyTurns" "chainTried" "LSkyTurns$Chain;") ∈ sy_W := sy_W_of (tk_2 _ (List.mem_of_getElem? (i := 179) rfl)) rfl
theorem wl_11_11 : (Cond.laysFinal RX11 "SkyTurns" "book" "LSkyTurns$Book;") ∈ sy_W := sy_W_of (tk_2 _ (List.mem_of_getElem? (i := 181) rfl)) rfl
theorem wl_11_12 : (Cond.laysFinal RX11 "SkyTurns" "debts" "LSkyTurns$Debts;") ∈ sy_W := sy_W_of (tk_2 _ (List.mem_of_getElem? (i := 183) rfl)) rfl
theorem wl_11_13 : (Cond.laysFinal RX11 "SkyTurns" "game" "LSkyTurns$Game;") ∈ sy_W := sy_W_of (tk_2 _ (List.mem_of_getElem? (i := 185) rfl)) rfl
theorem wl_11_14 : (Cond.lays RX11 "SkyTurns" "latestFault" "I") ∈ sy_W := sy_W_of (tk_2 _ (List.mem_of_getElem? (i := 187) rfl)) rfl
theorem wl_11_15 : (Cond.lays RX11 "SkyTurns" "seedNow" "I") ∈ sy_W := sy_W_of (tk_2 _ (List.mem_of_getElem? (i := 189) rfl)) rfl
theorem inW11 : ∀ w ∈ wsX110, w ∈ sy_W := by
  intro w h
  obtain ⟨k, hk, rfl⟩ := List.mem_map.mp h
  have hk := List.mem_range.mp hk
  match k, hk with
  | 0, _ => exact wl_11_0
  | 1, _ => exact wl_11_1
  | 2, _ => exact wl_11_2
  | 3, _ => exact wl_11_3
  | 4, _ => exact wl_11_4
  | 5, _ => exact wl_11_5
  | 6, _ => exact wl_11_6
  | 7, _ => exact wl_11_7
  | 8, _ => exact wl_11_8
  | 9, _ => exact wl_11_9
  | 10, _ => exact wl_11_10
  | 11, _ => exact wl_11_11
  | 12, _ => exact wl_11_12
  | 13, _ => exact wl_11_13
  | 14, _ => exact wl_11_14
  | 15, _ => exact wl_11_15
  | k + 16, hk => exact absurd hk (by omega)
theorem wl_12_0 : (Cond.lays RX12 "SkyTurnsModel" "letters" "I") ∈ sy_W := sy_W_of (tk_5 _ (List.mem_of_getElem? (i := 29) rfl)) rfl
theorem wl_12_1 : (Cond.laysFinal RX12 "SkyTurnsModel" "text" "[I") ∈ sy_W := sy_W_of (tk_5 _ (List.mem_of_getElem? (i := 31) rfl)) rfl
theorem wl_12_2 : (Cond.lays RX12 "SkyTurnsModel" "position" "I") ∈ sy_W := sy_W_of (tk_5 _ (List.mem_of_getElem? (i := 33) rfl)) rfl
theorem wl_12_3 : (Cond.lays RX12 "SkyTurnsModel" "tokenAt" "I") ∈ sy_W := sy_W_of (tk_5 _ (List.mem_of_getElem? (i := 35) rfl)) rfl
theorem wl_12_4 : (Cond.lays RX12 "SkyTurnsModel" "token" "I") ∈ sy_W := sy_W_of (tk_5 _ (List.mem_of_getElem? (i := 37) rfl)) rfl
theorem wl_12_5 : (Cond.lays RX12 "SkyTurnsModel" "number" "I") ∈ sy_W := sy_W_of (tk_5 _ (List.mem_of_getElem? (i := 39) rfl)) rfl
theorem wl_12_6 : (Cond.lays RX12 "SkyTurnsModel" "faultAt" "I") ∈ sy_W := sy_W_of (tk_5 _ (List.mem_of_getElem? (i := 41) rfl)) rfl
theorem wl_12_7 : (Cond.lays RX12 "SkyTurnsModel" "faultIs" "I") ∈ sy_W := sy_W_of (tk_5 _ (List.mem_of_getElem? (i := 43) rfl)) rfl
theorem wl_12_8 : (Cond.lays RX12 "SkyTurnsModel" "readWeights" "I") ∈ sy_W := sy_W_of (tk_5 _ (List.mem_of_getElem? (i := 45) rfl)) rfl
theorem wl_12_9 : (Cond.laysFinal RX12 "SkyTurnsModel" "readWeight" "[I") ∈ sy_W := sy_W_of (tk_5 _ (List.mem_of_getElem? (i := 47) rfl)) rfl
theorem wl_12_10 : (Cond.lays RX12 "SkyTurnsModel" "readMany" "I") ∈ sy_W := sy_W_of (tk_5 _ (List.mem_of_getElem? (i := 49) rfl)) rfl
theorem wl_12_11 : (Cond.laysFinal RX12 "SkyTurnsModel" "read" "[I") ∈ sy_W := sy_W_of (tk_5 _ (List.mem_of_getElem? (i := 51) rfl)) rfl
theorem wl_12_12 : (Cond.laysFinal RX12 "SkyTurnsModel" "readWord" "[I") ∈ sy_W := sy_W_of (tk_5 _ (List.mem_of_getElem? (i := 53) rfl)) rfl
theorem wl_12_13 : (Cond.lays RX12 "SkyTurnsModel" "readFruit" "I") ∈ sy_W := sy_W_of (tk_5 _ (List.mem_of_getElem? (i := 55) rfl)) rfl
theorem wl_12_14 : (Cond.lays RX12 "SkyTurnsModel" "hasWeights" "Z") ∈ sy_W := sy_W_of (tk_5 _ (List.mem_of_getElem? (i := 57) rfl)) rfl
theorem wl_12_15 : (Cond.lays RX12 "SkyTurnsModel" "hasWords" "Z") ∈ sy_W := sy_W_of (tk_5 _ (List.mem_of_getElem? (i := 59) rfl)) rfl
theorem wl_12_16 : (Cond.lays RX12 "SkyTurnsModel" "hasFruit" "Z") ∈ sy_W := sy_W_of (tk_5 _ (List.mem_of_getElem? (i := 61) rfl)) rfl
theorem wl_12_17 : (Cond.lays RX12 "SkyTurnsModel" "weights" "I") ∈ sy_W := sy_W_of (tk_5 _ (List.mem_of_getElem? (i := 63) rfl)) rfl
theorem wl_12_18 : (Cond.laysFinal RX12 "SkyTurnsModel" "weight" "[I") ∈ sy_W := sy_W_of (tk_5 _ (List.mem_of_getElem? (i := 65) rfl)) rfl
theorem wl_12_19 : (Cond.lays RX12 "SkyTurnsModel" "many" "I") ∈ sy_W := sy_W_of (tk_5 _ (List.mem_of_getElem? (i := 67) rfl)) rfl
theorem wl_12_20 : (Cond.laysFinal RX12 "SkyTurnsModel" "person" "[I") ∈ sy_W := sy_W_of (tk_5 _ (List.mem_of_getElem? (i := 69) rfl)) rfl
theorem wl_12_21 : (Cond.laysFinal RX12 "SkyTurnsModel" "word" "[I") ∈ sy_W := sy_W_of (tk_5 _ (List.mem_of_getElem? (i := 71) rfl)) rfl
theorem wl_12_22 : (Cond.laysFinal RX12 "SkyTurnsModel" "now" "[I") ∈ sy_W := sy_W_of (tk_5 _ (List.mem_of_getElem? (i := 73) rfl)) rfl
theorem wl_12_23 : (Cond.laysFinal RX12 "SkyTurnsModel" "tried" "[I") ∈ sy_W := sy_W_of (tk_5 _ (List.mem_of_getElem? (i := 75) rfl)) rfl
theorem wl_12_24 : (Cond.laysFinal RX12 "SkyTurnsModel" "image" "[I") ∈ sy_W := sy_W_of (tk_5 _ (List.mem_of_getElem? (i := 77) rfl)) rfl
theorem wl_12_25 : (Cond.laysFinal RX12 "SkyTurnsModel" "isKept" "[Z") ∈ sy_W := sy_W_of (tk_5 _ (List.mem_of_getElem? (i := 79) rfl)) rfl
theorem wl_12_26 : (Cond.lays RX12 "SkyTurnsModel" "backs" "I") ∈ sy_W := sy_W_of (tk_5 _ (List.mem_of_getElem? (i := 81) rfl)) rfl
theorem wl_12_27 : (Cond.laysFinal RX12 "SkyTurnsModel" "backOf" "[I") ∈ sy_W := sy_W_of (tk_5 _ (List.mem_of_getElem? (i := 83) rfl)) rfl
theorem wl_12_28 : (Cond.lays RX12 "SkyTurnsModel" "sights" "I") ∈ sy_W := sy_W_of (tk_5 _ (List.mem_of_getElem? (i := 85) rfl)) rfl
theorem wl_12_29 : (Cond.laysFinal RX12 "SkyTurnsModel" "sight" "[I") ∈ sy_W := sy_W_of (tk_5 _ (List.mem_of_getElem? (i := 87) rfl)) rfl
theorem wl_12_30 : (Cond.lays RX12 "SkyTurnsModel" "lines" "I") ∈ sy_W := sy_W_of (tk_5 _ (List.mem_of_getElem? (i := 89) rfl)) rfl
theorem wl_12_31 : (Cond.laysFinal RX12 "SkyTurnsModel" "line" "[I") ∈ sy_W := sy_W_of (tk_5 _ (List.mem_of_getElem? (i := 91) rfl)) rfl
theorem wl_12_32 : (Cond.laysFinal RX12 "SkyTurnsModel" "row" "[I") ∈ sy_W := sy_W_of (tk_5 _ (List.mem_of_getElem? (i := 93) rfl)) rfl
theorem wl_12_33 : (Cond.laysFinal RX12 "SkyTurnsModel" "found" "[I") ∈ sy_W := sy_W_of (tk_5 _ (List.mem_of_getElem? (i := 95) rfl)) rfl
theorem wl_12_34 : (Cond.laysFinal RX12 "SkyTurnsModel" "sums" "[I") ∈ sy_W := sy_W_of (tk_5 _ (List.mem_of_getElem? (i := 97) rfl)) rfl
theorem inW12 : ∀ w ∈ wsX120, w ∈ sy_W := by
  intro w h
  obtain ⟨k, hk, rfl⟩ := List.mem_map.mp h
  have hk := List.mem_range.mp hk
  match k, hk with
  | 0, _ => exact wl_12_0
  | 1, _ => exact wl_12_1
  | 2, _ => exact wl_12_2
  | 3, _ => exact wl_12_3
  | 4, _ => exact wl_12_4
  | 5, _ => exact wl_12_5
  | 6, _ => exact wl_12_6
  | 7, _ => exact wl_12_7
  | 8, _ => exact wl_12_8
  | 9, _ => exact wl_12_9
  | 10, _ => exact wl_12_10
  | 11, _ => exact wl_12_11
  | 12, _ => exact wl_12_12
  | 13, _ => exact wl_12_13
  | 14, _ => exact wl_12_14
  | 15, _ => exact wl_12_15
  | 16, _ => exact wl_12_16
  | 17, _ => exact wl_12_17
  | 18, _ => exact wl_12_18
  | 19, _ => exact wl_12_19
  | 20, _ => exact wl_12_20
  | 21, _ => exact wl_12_21
  | 22, _ => exact wl_12_22
  | 23, _ => exact wl_12_23
  | 24, _ => exact wl_12_24
  | 25, _ => exact wl_12_25
  | 26, _ => exact wl_12_26
  | 27, _ => exact wl_12_27
  | 28, _ => exact wl_12_28
  | 29, _ => exact wl_12_29
  | 30, _ => exact wl_12_30
  | 31, _ => exact wl_12_31
  | 32, _ => exact wl_12_32
  | 33, _ => exact wl_12_33
  | 34, _ => exact wl_12_34
  | k + 35, hk => exact absurd hk (by omega)
theorem wp_yX7_goOn : Cond.privateMethod yX7_goOn ∈ lw_tbl := tk_3 _ (List.mem_of_getElem? (i := 237) rfl)
theorem wp_yX7_standBehind : Cond.privateMethod yX7_standBehind ∈ lw_tbl := tk_4 _ (List.mem_of_getElem? (i := 23) rfl)
theorem sy_sel_priv {C : String} {x0 y0 y : MethodName} {s : State} {args : Array Value} (hsel : (Cond.selects C x0 y0).before args s = true) (h0 : y0.cls = y.cls) (hy : y.cls ≠ "java/lang/invoke/MethodHandle" ∧ y.cls ≠ "java/lang/invoke/VarHandle") (hpriv : (Cond.privateMethod y).before args s = true) (hinst : (Cond.instanceMethod y).before args s = true) : (Cond.selects C y y).before args s = true := by
  obtain ⟨c2, r2, m2, q1, q2, q3, q4, kP, hkP, hkPi⟩ := Cond.selects_spec hsel
  obtain ⟨mk, methM, hnamed, hmethM, -, -⟩ := Cond.instanceMethod_spec hinst
  have hfound : s.methodFound? y.cls y.name y.desc = some mk := State.methodFound?_of_named hnamed hy
  have hcls : mk.cls = m2.cls := by
    have a := findClass_of_methodNamed hnamed
    have b := findClass_of_methodNamed q3
    rw [h0] at b
    exact Option.some.inj (a.symm.trans b)
  have hsel2 : selectMethod {} s.vm c2 mk = .method mk := selectMethod_private hmethM (Cond.privateMethod_at hpriv mk methM hnamed hmethM)
  simp only [Cond.before, Cond.holds, Cond.value, q1, hfound, hnamed, hsel2, hcls, hkP]
  simp
  exact hkPi
theorem sy_W_hts {s : State} {args : Array Value} (hts : ∀ w ∈ lw_tbl, w.before args s = true) : ∀ w ∈ sy_W, w.before args s = true := by
  intro w hw
  have h2 : ∀ v ∈ sy_W, v ∈ lw_tbl → v.before args s = true := fun v _ h => hts v h
  have t8 : (Cond.selects RX8 ⟨"SkyTurns$SeenRows", "tryRows", "(LSkyTurns$Sky;I)V"⟩ yX7_tryRows).before args s = true := hts _ (tk_4 _ (List.mem_of_getElem? (i := 178) rfl))
  have t9 : (Cond.selects RX9 ⟨"SkyTurns$ShiftRows", "tryRows", "(LSkyTurns$Sky;I)V"⟩ yX7_tryRows).before args s = true := hts _ (tk_3 _ (List.mem_of_getElem? (i := 231) rfl))
  have hy : ∀ y : MethodName, y.cls = RX7 → y.cls ≠ "java/lang/invoke/MethodHandle" ∧ y.cls ≠ "java/lang/invoke/VarHandle" := fun y h => by rw [h]; exact ⟨by decide +kernel, by decide +kernel⟩
  rcases List.mem_append.mp (List.mem_filter.mp hw).1 with h | h
  · simp only [sy_sels, List.mem_cons, List.not_mem_nil, or_false] at h
    rcases h with rfl | rfl | rfl | rfl
    · exact sy_sel_priv t8 rfl (hy _ rfl) (hts _ wp_yX7_goOn) (hts _ (tk_3 _ (List.mem_of_getElem? (i := 238) rfl)))
    · exact sy_sel_priv t8 rfl (hy _ rfl) (hts _ wp_yX7_standBehind) (hts _ (tk_4 _ (List.mem_of_getElem? (i := 24) rfl)))
    · exact sy_sel_priv t9 rfl (hy _ rfl) (hts _ wp_yX7_goOn) (hts _ (tk_3 _ (List.mem_of_getElem? (i := 238) rfl)))
    · exact sy_sel_priv t9 rfl (hy _ rfl) (hts _ wp_yX7_standBehind) (hts _ (tk_4 _ (List.mem_of_getElem? (i := 24) rfl)))
  · exact hts w h
