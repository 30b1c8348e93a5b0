def m_Reader_readFather (S : sy_St) : sy_R := sy_c (m_Reader_readNumber 0 9 S) fun r2 S1 => if r2 = 9 then (some ((-1), S1)) else (sy_c (m_Edge_isPerson 37 r2 S1) fun r6 S5 => if r6 = 0 then (sy_c (m_Reader_fail 2 (S5 35 6) S5) fun r10 S9 => some (r2, S9)) else (some (r2, S5)))
theorem cv_Reader_readFather : sy_cV RX6 yX6_readFather cX6_readFather 2 (some .int) 0 := ⟨wm_278, wm_279, wm_21, wm_280, by decide +kernel⟩
set_option maxRecDepth 100000 in
set_option maxHeartbeats 40000000 in
theorem c_Reader_readFather (l : Launch) {E : sy_ET} (ht : sy_OReader E) {S S' : sy_St} {r : Int32} (h : m_Reader_readFather S = some (r, S')) : sy_MI l yX6_readFather cX6_readFather 2 (some .int) 2 46 [.ref (sy_ad E 35)] E S r S' := by
  refine sy_MI_of RX6 pn_6 rfl (Nat.le_of_ble_eq_true rfl) (fun p e s m args below meth c A ls fx hr hlk hA X hl => ?_)
  have hx := fx.1
  have hb := fx.2.1
  have hown := fx.2.2.2.1
  have hts := fx.2.2.2.2
  have hl : lv_has ls 2 [(0, .ref (sy_ad E 35))] := hl
  unfold m_Reader_readFather at h
  refine lv_aload_n hx hb dX6_readFather_0 rfl (lv_at hl 0 rfl) ?_
  refine lv_iconst (v := 0) hx hb dX6_readFather_1 (by decide) ?_
  refine lv_bipush (v := 9) hx hb dX6_readFather_2 (by decide) ?_
  obtain ⟨r2, S1, hc3, h⟩ := sy_c_e h
  refine sy_vi (rest := []) fx hA X hl.1 (sy_OReader_o ht) (sy_en6 (sy_OReader_o ht).2) rfl (c_Reader_readNumber l ht hc3) cv_Reader_readNumber wm_252 ⟨Nat.le_of_ble_eq_true rfl, Nat.le_of_ble_eq_true rfl, Nat.le_refl _, Nat.le_refl _⟩ rfl rfl (Nat.le_of_ble_eq_true rfl) dX6_readFather_4 (fun H locs X => ?_)
  refine lv_istore_n (lv' := [(1, .int r2), (0, .ref (sy_ad E 35))]) hx hb dX6_readFather_7 rfl hl (by decide) rfl (fun ls hl => ?_)
  refine lv_iload_n hx hb dX6_readFather_8 rfl (lv_at hl 0 rfl) ?_
  refine lv_bipush (v := 9) hx hb dX6_readFather_9 (by decide) ?_
  refine lv_icmp_ne (tgt := 16) hx hb dX6_readFather_11 (by decide) (fun c4 => ?_) (fun c4 => ?_)
  · have h := sy_f c4 h
    refine lv_aload_n hx hb dX6_readFather_16 rfl (lv_at hl 1 rfl) ?_
    refine sy_q6 fx X (sy_OReader_o ht) 1 (by decide) wm_108 (fun _ h9 => h9) rfl (sy_OReader_r1 ht) dX6_readFather_17 ?_
    refine lv_iload_n hx hb dX6_readFather_20 rfl (lv_at hl 0 rfl) ?_
    obtain ⟨r6, S5, hc7, h⟩ := sy_c_e h
    refine sy_vi (rest := []) fx hA X hl.1 (sy_OEdge_o (sy_OReader_a1 ht)) (sy_en3 (sy_OEdge_o (sy_OReader_a1 ht)).2) rfl (c_Edge_isPerson l (sy_OReader_a1 ht) hc7) cv_Edge_isPerson wm_281 ⟨Nat.le_of_ble_eq_true rfl, Nat.le_of_ble_eq_true rfl, Nat.le_refl _, Nat.le_refl _⟩ rfl rfl (Nat.le_of_ble_eq_true rfl) dX6_readFather_21 (fun H locs X => ?_)
    refine lv_if_ne (tgt := 36) hx hb dX6_readFather_24 (by decide) (fun c8 => ?_) (fun c8 => ?_)
    · have h := sy_f c8 h
      refine lv_iload_n hx hb dX6_readFather_36 rfl (lv_at hl 0 rfl) ?_
      exact sy_iret fx X hr hlk h dX6_readFather_37
    · have h := sy_t c8 h
      refine lv_aload_n hx hb dX6_readFather_27 rfl (lv_at hl 1 rfl) ?_
      refine lv_iconst (v := 2) hx hb dX6_readFather_28 (by decide) ?_
      refine lv_aload_n hx hb dX6_readFather_29 rfl (lv_at hl 1 rfl) ?_
      refine sy_g6 fx X (sy_OReader_o ht) 6 (by decide) wm_256 (fun _ h9 => h9) rfl dX6_readFather_30 ?_
      obtain ⟨r10, S9, hc11, h⟩ := sy_c_e h
      refine sy_vv (rest := []) fx hA X hl.1 (sy_OReader_o ht) (sy_en6 (sy_OReader_o ht).2) rfl (c_Reader_fail l ht hc11) cv_Reader_fail wm_248 ⟨Nat.le_of_ble_eq_true rfl, Nat.le_of_ble_eq_true rfl, Nat.le_refl _, Nat.le_refl _⟩ rfl rfl (Nat.le_of_ble_eq_true rfl) dX6_readFather_33 (fun H locs X => ?_)
      refine lv_iload_n hx hb dX6_readFather_36 rfl (lv_at hl 0 rfl) ?_
      exact sy_iret fx X hr hlk h dX6_readFather_37
  · have h := sy_t c4 h
    refine lv_iconst (v := (-1)) hx hb dX6_readFather_14 (by decide) ?_
    exact sy_iret fx X hr hlk h dX6_readFather_15
def m_Reader_readPerson (S : sy_St) : sy_R := if (S 37 8) < 6 then (sy_b (sy_up S 35 5 ((S 35 5) + 1)) fun S2 => sy_c (m_Reader_readNumber 0 4 S2) fun r4 S3 => sy_c (m_Reader_readNumber 1 20 S3) fun r7 S6 => sy_c (m_Reader_readNumber 1 9 S6) fun r10 S9 => sy_c (m_Reader_readNumber 0 9 S9) fun r13 S12 => sy_c (m_Reader_readFather S12) fun r16 S15 => sy_c (m_Reader_readEnd S15) fun r19 S18 => if (S18 35 3) = 0 then (sy_c (m_Edge_addPerson 37 r4 r7 r10 r13 r16 S18) fun r23 S22 => some (0, S22)) else (some (0, S18))) else (sy_c (m_Reader_fail 3 (S 35 5) S) fun r26 S25 => some (0, S25))
theorem cv_Reader_readPerson : sy_cV RX6 yX6_readPerson cX6_readPerson 6 none 0 := ⟨wm_273, wm_274, wm_21, wm_275, by decide +kernel⟩
set_option maxRecDepth 100000 in
set_option maxHeartbeats 40000000 in
theorem c_Reader_readPerson (l : Launch) {E : sy_ET} (ht : sy_OReader E) {S S' : sy_St} {r : Int32} (h : m_Reader_readPerson S = some (r, S')) : sy_MV l yX6_readPerson cX6_readPerson 6 3 67 [.ref (sy_ad E 35)] E S S' := by
  refine sy_MV_of RX6 pn_6 rfl (Nat.le_of_ble_eq_true rfl) (fun p e s m args below meth c A ls fx hr hlk hA X hl => ?_)
  have hx := fx.1
  have hb := fx.2.1
  have hown := fx.2.2.2.1
  have hts := fx.2.2.2.2
  have hl : lv_has ls 6 [(0, .ref (sy_ad E 35))] := hl
  unfold m_Reader_readPerson at h
  refine lv_aload_n hx hb dX6_readPerson_0 rfl (lv_at hl 0 rfl) ?_
  refine sy_q6 fx X (sy_OReader_o ht) 1 (by decide) wm_108 (fun _ h9 => h9) rfl (sy_OReader_r1 ht) dX6_readPerson_1 ?_
  refine sy_g3 fx X (sy_OEdge_o (sy_OReader_a1 ht)) 8 (by decide) wm_276 (fun _ h9 => h9) rfl dX6_readPerson_4 ?_
  refine lv_bipush (v := 6) hx hb dX6_readPerson_7 (by decide) ?_
  refine lv_icmp_lt (tgt := 22) hx hb dX6_readPerson_9 (by decide) (fun c1 => ?_) (fun c1 => ?_)
  · have h := sy_t c1 h
    refine lv_aload_n hx hb dX6_readPerson_22 rfl (lv_at hl 0 rfl) ?_
    refine lv_dup hx hb dX6_readPerson_23 rfl ?_
    refine sy_g6 fx X (sy_OReader_o ht) 5 (by decide) wm_227 (fun _ h9 => h9) rfl dX6_readPerson_24 ?_
    refine lv_iconst (v := 1) hx hb dX6_readPerson_27 (by decide) ?_
    refine lv_iadd hx hb dX6_readPerson_28 ?_
    obtain ⟨S2, hS2, h⟩ := sy_b_e h
    refine sy_p6 fx X (sy_OReader_o ht) 5 (by decide) wm_227 (fun _ h9 => h9) rfl (ty := .int) (by decide +kernel) rfl rfl hS2 sy_s6_5 dX6_readPerson_29 (fun H locs X => ?_)
    refine lv_aload_n hx hb dX6_readPerson_32 rfl (lv_at hl 0 rfl) ?_
    refine lv_iconst (v := 0) hx hb dX6_readPerson_33 (by decide) ?_
    refine lv_iconst (v := 4) hx hb dX6_readPerson_34 (by decide) ?_
    obtain ⟨r4, S3, hc5, h⟩ := sy_c_e h
    refine sy_vi (rest := []) fx hA X hl.1 (sy_OReader_o ht) (sy_en6 (sy_OReader_o ht).2) rfl (c_Reader_readNumber l ht hc5) cv_Reader_readNumber wm_252 ⟨Nat.le_of_ble_eq_true rfl, Nat.le_of_ble_eq_true rfl, Nat.le_refl _, Nat.le_refl _⟩ rfl rfl (Nat.le_of_ble_eq_true rfl) dX6_readPerson_35 (fun H locs X => ?_)
    refine lv_istore_n (lv' := [(1, .int r4), (0, .ref (sy_ad E 35))]) hx hb dX6_readPerson_38 rfl hl (by decide) rfl (fun ls hl => ?_)
    refine lv_aload_n hx hb dX6_readPerson_39 rfl (lv_at hl 1 rfl) ?_
    refine lv_iconst (v := 1) hx hb dX6_readPerson_40 (by decide) ?_
    refine lv_bipush (v := 20) hx hb dX6_readPerson_41 (by decide) ?_
    obtain ⟨r7, S6, hc8, h⟩ := sy_c_e h
    refine sy_vi (rest := []) fx hA X hl.1 (sy_OReader_o ht) (sy_en6 (sy_OReader_o ht).2) rfl (c_Reader_readNumber l ht hc8) cv_Reader_readNumber wm_252 ⟨Nat.le_of_ble_eq_true rfl, Nat.le_of_ble_eq_true rfl, Nat.le_refl _, Nat.le_refl _⟩ rfl rfl (Nat.le_of_ble_eq_true rfl) dX6_readPerson_43 (fun H locs X => ?_)
    refine lv_istore_n (lv' := [(2, .int r7), (1, .int r4), (0, .ref (sy_ad E 35))]) hx hb dX6_readPerson_46 rfl hl (by decide) rfl (fun ls hl => ?_)
    refine lv_aload_n hx hb dX6_readPerson_47 rfl (lv_at hl 2 rfl) ?_
    refine lv_iconst (v := 1) hx hb dX6_readPerson_48 (by decide) ?_
    refine lv_bipush (v := 9) hx hb dX6_readPerson_49 (by decide) ?_
    obtain ⟨r10, S9, hc11, h⟩ := sy_c_e h
    refine sy_vi (rest := []) fx hA X hl.1 (sy_OReader_o ht) (sy_en6 (sy_OReader_o ht).2) rfl (c_Reader_readNumber l ht hc11) cv_Reader_readNumber wm_252 ⟨Nat.le_of_ble_eq_true rfl, Nat.le_of_ble_eq_true rfl, Nat.le_refl _, Nat.le_refl _⟩ rfl rfl (Nat.le_of_ble_eq_true rfl) dX6_readPerson_51 (fun H locs X => ?_)
    refine lv_istore_n (lv' := [(3, .int r10), (2, .int r7), (1, .int r4), (0, .ref (sy_ad E 35))]) hx hb dX6_readPerson_54 rfl hl (by decide) rfl (fun ls hl => ?_)
    refine lv_aload_n hx hb dX6_readPerson_55 rfl (lv_at hl 3 rfl) ?_
    refine lv_iconst (v := 0) hx hb dX6_readPerson_56 (by decide) ?_
    refine lv_bipush (v := 9) hx hb dX6_readPerson_57 (by decide) ?_
    obtain ⟨r13, S12, hc14, h⟩ := sy_c_e h
    refine sy_vi (rest := []) fx hA X hl.1 (sy_OReader_o ht) (sy_en6 (sy_OReader_o ht).2) rfl (c_Reader_readNumber l ht hc14) cv_Reader_readNumber wm_252 ⟨Nat.le_of_ble_eq_true rfl, Nat.le_of_ble_eq_true rfl, Nat.le_refl _, Nat.le_refl _⟩ rfl rfl (Nat.le_of_ble_eq_true rfl) dX6_readPerson_59 (fun H locs X => ?_)
    refine lv_istore (lv' := [(4, .int r13), (3, .int r10), (2, .int r7), (1, .int r4), (0, .ref (sy_ad E 35))]) hx hb dX6_readPerson_62 hl (by decide) rfl (fun ls hl => ?_)
    refine lv_aload_n hx hb dX6_readPerson_64 rfl (lv_at hl 4 rfl) ?_
    obtain ⟨r16, S15, hc17, h⟩ := sy_c_e h
    refine sy_vi (rest := []) fx hA X hl.1 (sy_OReader_o ht) (sy_en6 (sy_OReader_o ht).2) rfl (c_Reader_readFather l ht hc17) cv_Reader_readFather wm_277 ⟨Nat.le_of_ble_eq_true rfl, Nat.le_of_ble_eq_true rfl, Nat.le_refl _, Nat.le_refl _⟩ rfl rfl (Nat.le_of_ble_eq_true rfl) dX6_readPerson_65 (fun H locs X => ?_)
    refine lv_istore (lv' := [(5, .int r16), (4, .int r13), (3, .int r10), (2, .int r7), (1, .int r4), (0, .ref (sy_ad E 35))]) hx hb dX6_readPerson_68 hl (by decide) rfl (fun ls hl => ?_)
    refine lv_aload_n hx hb dX6_readPerson_70 rfl (lv_at hl 5 rfl) ?_
    obtain ⟨r19, S18, hc20, h⟩ := sy_c_e h
    refine sy_vv (rest := []) fx hA X hl.1 (sy_OReader_o ht) (sy_en6 (sy_OReader_o ht).2) rfl (c_Reader_readEnd l ht hc20) cv_Reader_readEnd wm_268 ⟨Nat.le_of_ble_eq_true rfl, Nat.le_of_ble_eq_true rfl, Nat.le_refl _, Nat.le_refl _⟩ rfl rfl (Nat.le_of_ble_eq_true rfl) dX6_readPerson_71 (fun H locs X => ?_)
    refine lv_aload_n hx hb dX6_readPerson_74 rfl (lv_at hl 5 rfl) ?_
    refine sy_g6 fx X (sy_OReader_o ht) 3 (by decide) wm_226 (fun _ h9 => h9) rfl dX6_readPerson_75 ?_
    refine lv_if_ne (tgt := 95) hx hb dX6_readPerson_78 (by decide) (fun c21 => ?_) (fun c21 => ?_)
    · have h := sy_f c21 h
      exact sy_vret fx X hr hlk h dX6_readPerson_95
    · have h := sy_t c21 h
      refine lv_aload_n hx hb dX6_readPerson_81 rfl (lv_at hl 5 rfl) ?_
      refine sy_q6 fx X (sy_OReader_o ht) 1 (by decide) wm_108 (fun _ h9 => h9) rfl (sy_OReader_r1 ht) dX6_readPerson_82 ?_
      refine lv_iload_n hx hb dX6_readPerson_85 rfl (lv_at hl 4 rfl) ?_
      refine lv_iload_n hx hb dX6_readPerson_86 rfl (lv_at hl 3 rfl) ?_
      refine lv_iload_n hx hb dX6_readPerson_87 rfl (lv_at hl 2 rfl) ?_
      refine lv_iload hx hb dX6_readPerson_88 (lv_at hl 1 rfl) ?_
      refine lv_iload hx hb dX6_readPerson_90 (lv_at hl 0 rfl) ?_
      obtain ⟨r23, S22, hc24, h⟩ := sy_c_e h
      refine sy_vv (rest := []) fx hA X hl.1 (sy_OEdge_o (sy_OReader_a1 ht)) (sy_en3 (sy_OEdge_o (sy_OReader_a1 ht)).2) rfl (c_Edge_addPerson l (sy_OReader_a1 ht) hc24) cv_Edge_addPerson wm_285 ⟨Nat.le_of_ble_eq_true rfl, Nat.le_of_ble_eq_true rfl, Nat.le_refl _, Nat.le_refl _⟩ rfl rfl (Nat.le_of_ble_eq_true rfl) dX6_readPerson_92 (fun H locs X => ?_)
      exact sy_vret fx X hr hlk h dX6_readPerson_95
  · have h := sy_f c1 h
    refine lv_aload_n hx hb dX6_readPerson_12 rfl (lv_at hl 0 rfl) ?_
    refine lv_iconst (v := 3) hx hb dX6_readPerson_13 (by decide) ?_
    refine lv_aload_n hx hb dX6_readPerson_14 rfl (lv_at hl 0 rfl) ?_
    refine sy_g6 fx X (sy_OReader_o ht) 5 (by decide) wm_227 (fun _ h9 => h9) rfl dX6_readPerson_15 ?_
    obtain ⟨r26, S25, hc27, h⟩ := sy_c_e h
    refine sy_vv (rest := []) fx hA X hl.1 (sy_OReader_o ht) (sy_en6 (sy_OReader_o ht).2) rfl (c_Reader_fail l ht hc27) cv_Reader_fail wm_248 ⟨Nat.le_of_ble_eq_true rfl, Nat.le_of_ble_eq_true rfl, Nat.le_refl _, Nat.le_refl _⟩ rfl rfl (Nat.le_of_ble_eq_true rfl) dX6_readPerson_18 (fun H locs X => ?_)
    exact sy_vret fx X hr hlk h dX6_readPerson_21
def m_Reader_readGoodness (S : sy_St) : sy_R := if (S 35 7) = 0 then (sy_b (sy_up S 35 5 ((S 35 5) + 1)) fun S2 => sy_b (sy_up S2 35 7 1) fun S3 => sy_c (m_Reader_readNumber 0 9 S3) fun r5 S4 => sy_c (m_Reader_readNumber 0 9 S4) fun r8 S7 => sy_c (m_Reader_readNumber 0 9 S7) fun r11 S10 => sy_c (m_Reader_readEnd S10) fun r14 S13 => sy_c (m_Edge_setGoodness 37 r5 r8 r11 S13) fun r17 S16 => some (0, S16)) else (sy_c (m_Reader_fail 3 (S 35 5) S) fun r20 S19 => some (0, S19))
theorem cv_Reader_readGoodness : sy_cV RX6 yX6_readGoodness cX6_readGoodness 4 none 0 := ⟨wm_290, wm_291, wm_21, wm_292, by decide +kernel⟩
set_option maxRecDepth 100000 in
set_option maxHeartbeats 40000000 in
theorem c_Reader_readGoodness (l : Launch) {E : sy_ET} (ht : sy_OReader E) {S S' : sy_St} {r : Int32} (h : m_Reader_readGoodness S = some (r, S')) : sy_MV l yX6_readGoodness cX6_readGoodness 4 3 61 [.ref (sy_ad E 35)] E S S' := by
  refine sy_MV_of RX6 pn_6 rfl (Nat.le_of_ble_eq_true rfl) (fun p e s m args below meth c A ls fx hr hlk hA X hl => ?_)
  have hx := fx.1
  have hb := fx.2.1
  have hown := fx.2.2.2.1
  have hts := fx.2.2.2.2
  have hl : lv_has ls 4 [(0, .ref (sy_ad E 35))] := hl
  unfold m_Reader_readGoodness at h
  refine lv_aload_n hx hb dX6_readGoodness_0 rfl (lv_at hl 0 rfl) ?_
  refine sy_g6 fx X (sy_OReader_o ht) 7 (by decide) wm_228 (fun _ h9 => h9) rfl dX6_readGoodness_1 ?_
  refine lv_if_eq (tgt := 17) hx hb dX6_readGoodness_4 (by decide) (fun c1 => ?_) (fun c1 => ?_)
  · have h := sy_t c1 h
    refine lv_aload_n hx hb dX6_readGoodness_17 rfl (lv_at hl 0 rfl) ?_
    refine lv_dup hx hb dX6_readGoodness_18 rfl ?_
    refine sy_g6 fx X (sy_OReader_o ht) 5 (by decide) wm_227 (fun _ h9 => h9) rfl dX6_readGoodness_19 ?_
    refine lv_iconst (v := 1) hx hb dX6_readGoodness_22 (by decide) ?_
    refine lv_iadd hx hb dX6_readGoodness_23 ?_
    obtain ⟨S2, hS2, h⟩ := sy_b_e h
    refine sy_p6 fx X (sy_OReader_o ht) 5 (by decide) wm_227 (fun _ h9 => h9) rfl (ty := .int) (by decide +kernel) rfl rfl hS2 sy_s6_5 dX6_readGoodness_24 (fun H locs X => ?_)
    refine lv_aload_n hx hb dX6_readGoodness_27 rfl (lv_at hl 0 rfl) ?_
    refine lv_iconst (v := 1) hx hb dX6_readGoodness_28 (by decide) ?_
    obtain ⟨S3, hS3, h⟩ := sy_b_e h
    refine sy_p6 fx X (sy_OReader_o ht) 7 (by decide) wm_228 (fun _ h9 => h9) rfl (ty := .boolean) (by decide +kernel) rfl rfl hS3 sy_s6_7 dX6_readGoodness_29 (fun H locs X => ?_)
    refine lv_aload_n hx hb dX6_readGoodness_32 rfl (lv_at hl 0 rfl) ?_
    refine lv_iconst (v := 0) hx hb dX6_readGoodness_33 (by decide) ?_
    refine lv_bipush (v := 9) hx hb dX6_readGoodness_34 (by decide) ?_
    obtain ⟨r5, S4, hc6, h⟩ := sy_c_e h
    refine sy_vi (rest := []) fx hA X hl.1 (sy_OReader_o ht) (sy_en6 (sy_OReader_o ht).2) rfl (c_Reader_readNumber l ht hc6) cv_Reader_readNumber wm_252 ⟨Nat.le_of_ble_eq_true rfl, Nat.le_of_ble_eq_true rfl, Nat.le_refl _, Nat.le_refl _⟩ rfl rfl (Nat.le_of_ble_eq_true rfl) dX6_readGoodness_36 (fun H locs X => ?_)
    refine lv_istore_n (lv' := [(1, .int r5), (0, .ref (sy_ad E 35))]) hx hb dX6_readGoodness_39 rfl hl (by decide) rfl (fun ls hl => ?_)
    refine lv_aload_n hx hb dX6_readGoodness_40 rfl (lv_at hl 1 rfl) ?_
    refine lv_iconst (v := 0) hx hb dX6_readGoodness_41 (by decide) ?_
    refine lv_bipush (v := 9) hx hb dX6_readGoodness_42 (by decide) ?_
    obtain ⟨r8, S7, hc9, h⟩ := sy_c_e h
    refine sy_vi (rest := []) fx hA X hl.1 (sy_OReader_o ht) (sy_en6 (sy_OReader_o ht).2) rfl (c_Reader_readNumber l ht hc9) cv_Reader_readNumber wm_252 ⟨Nat.le_of_ble_eq_true rfl, Nat.le_of_ble_eq_true rfl, Nat.le_refl _, Nat.le_refl _⟩ rfl rfl (Nat.le_of_ble_eq_true rfl) dX6_readGoodness_44 (fun H locs X => ?_)
    refine lv_istore_n (lv' := [(2, .int r8), (1, .int r5), (0, .ref (sy_ad E 35))]) hx hb dX6_readGoodness_47 rfl hl (by decide) rfl (fun ls hl => ?_)
    refine lv_aload_n hx hb dX6_readGoodness_48 rfl (lv_at hl 2 rfl) ?_
    refine lv_iconst (v := 0) hx hb dX6_readGoodness_49 (by decide) ?_
    refine lv_bipush (v := 9) hx hb dX6_readGoodness_50 (by decide) ?_
    obtain ⟨r11, S10, hc12, h⟩ := sy_c_e h
    refine sy_vi (rest := []) fx hA X hl.1 (sy_OReader_o ht) (sy_en6 (sy_OReader_o ht).2) rfl (c_Reader_readNumber l ht hc12) cv_Reader_readNumber wm_252 ⟨Nat.le_of_ble_eq_true rfl, Nat.le_of_ble_eq_true rfl, Nat.le_refl _, Nat.le_refl _⟩ rfl rfl (Nat.le_of_ble_eq_true rfl) dX6_readGoodness_52 (fun H locs X => ?_)
    refine lv_istore_n (lv' := [(3, .int r11), (2, .int r8), (1, .int r5), (0, .ref (sy_ad E 35))]) hx hb dX6_readGoodness_55 rfl hl (by decide) rfl (fun ls hl => ?_)
    refine lv_aload_n hx hb dX6_readGoodness_56 rfl (lv_at hl 3 rfl) ?_
    obtain ⟨r14, S13, hc15, h⟩ := sy_c_e h
    refine sy_vv (rest := []) fx hA X hl.1 (sy_OReader_o ht) (sy_en6 (sy_OReader_o ht).2) rfl (c_Reader_readEnd l ht hc15) cv_Reader_readEnd wm_268 ⟨Nat.le_of_ble_eq_true rfl, Nat.le_of_ble_eq_true rfl, Nat.le_refl _, Nat.le_refl _⟩ rfl rfl (Nat.le_of_ble_eq_true rfl) dX6_readGoodness_57 (fun H locs X => ?_)
    refine lv_aload_n hx hb dX6_readGoodness_60 rfl (lv_at hl 3 rfl) ?_
    refine sy_q6 fx X (sy_OReader_o ht) 1 (by decide) wm_108 (fun _ h9 => h9) rfl (sy_OReader_r1 ht) dX6_readGoodness_61 ?_
    refine lv_iload_n hx hb dX6_readGoodness_64 rfl (lv_at hl 2 rfl) ?_
    refine lv_iload_n hx hb dX6_readGoodness_65 rfl (lv_at hl 1 rfl) ?_
    refine lv_iload_n hx hb dX6_readGoodness_66 rfl (lv_at hl 0 rfl) ?_
    obtain ⟨r17, S16, hc18, h⟩ := sy_c_e h
    refine sy_vv (rest := []) fx hA X hl.1 (sy_OEdge_o (sy_OReader_a1 ht)) (sy_en3 (sy_OEdge_o (sy_OReader_a1 ht)).2) rfl (c_Edge_setGoodness l (sy_OReader_a1 ht) hc18) cv_Edge_setGoodness wm_293 ⟨Nat.le_of_ble_eq_true rfl, Nat.le_of_ble_eq_true rfl, Nat.le_refl _, Nat.le_refl _⟩ rfl rfl (Nat.le_of_ble_eq_true rfl) dX6_readGoodness_67 (fun H locs X => ?_)
    exact sy_vret fx X hr hlk h dX6_readGoodness_70
  · have h := sy_f c1 h
    refine lv_aload_n hx hb dX6_readGoodness_7 rfl (lv_at hl 0 rfl) ?_
    refine lv_iconst (v := 3) hx hb dX6_readGoodness_8 (by decide) ?_
    refine lv_aload_n hx hb dX6_readGoodness_9 rfl (lv_at hl 0 rfl) ?_
    refine sy_g6 fx X (sy_OReader_o ht) 5 (by decide) wm_227 (fun _ h9 => h9) rfl dX6_readGoodness_10 ?_
    obtain ⟨r20, S19, hc21, h⟩ := sy_c_e h
    refine sy_vv (rest := []) fx hA X hl.1 (sy_OReader_o ht) (sy_en6 (sy_OReader_o ht).2) rfl (c_Reader_fail l ht hc21) cv_Reader_fail wm_248 ⟨Nat.le_of_ble_eq_true rfl, Nat.le_of_ble_eq_true rfl, Nat.le_refl _, Nat.le_refl _⟩ rfl rfl (Nat.le_of_ble_eq_true rfl) dX6_readGoodness_13 (fun H locs X => ?_)
    exact sy_vret fx X hr hlk h dX6_readGoodness_16
def m_Reader_readFruit (S : sy_St) : sy_R := if (S 35 8) = 0 then (sy_b (sy_up S 35 5 ((S 35 5) + 1)) fun S2 => sy_b (sy_up S2 35 8 1) fun S3 => sy_c (m_Reader_readNumber 0 99 S3) fun r5 S4 => sy_b (sy_up S4 37 9 r5) fun S7 => sy_c (m_Reader_readEnd S7) fun r9 S8 => some (0, S8)) else (sy_c (m_Reader_fail 3 (S 35 5) S) fun r12 S11 => some (0, S11))
theorem cv_Reader_readFruit : sy_cV RX6 yX6_readFruit cX6_readFruit 1 none 0 := ⟨wm_295, wm_296, wm_21, wm_297, by decide +kernel⟩
set_option maxRecDepth 100000 in
set_option maxHeartbeats 40000000 in
theorem c_Reader_readFruit (l : Launch) {E : sy_ET} (ht : sy_OReader E) {S S' : sy_St} {r : Int32} (h : m_Reader_readFruit S = some (r, S')) : sy_MV l yX6_readFruit cX6_readFruit 1 3 61 [.ref (sy_ad E 35)] E S S' := by
  refine sy_MV_of RX6 pn_6 rfl (Nat.le_of_ble_eq_true rfl) (fun p e s m args below meth c A ls fx hr hlk hA X hl => ?_)
  have hx := fx.1
  have hb := fx.2.1
  have hown := fx.2.2.2.1
  have hts := fx.2.2.2.2
  have hl : lv_has ls 1 [(0, .ref (sy_ad E 35))] := hl
  unfold m_Reader_readFruit at h
  refine lv_aload_n hx hb dX6_readFruit_0 rfl (lv_at hl 0 rfl) ?_
  refine sy_g6 fx X (sy_OReader_o ht) 8 (by decide) wm_229 (fun _ h9 => h9) rfl dX6_readFruit_1 ?_
  refine lv_if_eq (tgt := 17) hx hb dX6_readFruit_4 (by decide) (fun c1 => ?_) (fun c1 => ?_)
  · have h := sy_t c1 h
    refine lv_aload_n hx hb dX6_readFruit_17 rfl (lv_at hl 0 rfl) ?_
    refine lv_dup hx hb dX6_readFruit_18 rfl ?_
    refine sy_g6 fx X (sy_OReader_o ht) 5 (by decide) wm_227 (fun _ h9 => h9) rfl dX6_readFruit_19 ?_
    refine lv_iconst (v := 1) hx hb dX6_readFruit_22 (by decide) ?_
    refine lv_iadd hx hb dX6_readFruit_23 ?_
    obtain ⟨S2, hS2, h⟩ := sy_b_e h
    refine sy_p6 fx X (sy_OReader_o ht) 5 (by decide) wm_227 (fun _ h9 => h9) rfl (ty := .int) (by decide +kernel) rfl rfl hS2 sy_s6_5 dX6_readFruit_24 (fun H locs X => ?_)
    refine lv_aload_n hx hb dX6_readFruit_27 rfl (lv_at hl 0 rfl) ?_
    refine lv_iconst (v := 1) hx hb dX6_readFruit_28 (by decide) ?_
    obtain ⟨S3, hS3, h⟩ := sy_b_e h
    refine sy_p6 fx X (sy_OReader_o ht) 8 (by decide) wm_229 (fun _ h9 => h9) rfl (ty := .boolean) (by decide +kernel) rfl rfl hS3 sy_s6_8 dX6_readFruit_29 (fun H locs X => ?_)
    refine lv_aload_n hx hb dX6_readFruit_32 rfl (lv_at hl 0 rfl) ?_
    refine sy_q6 fx X (sy_OReader_o ht) 1 (by decide) wm_108 (fun _ h9 => h9) rfl (sy_OReader_r1 ht) dX6_readFruit_33 ?_
    refine lv_aload_n hx hb dX6_readFruit_36 rfl (lv_at hl 0 rfl) ?_
    refine lv_iconst (v := 0) hx hb dX6_readFruit_37 (by decide) ?_
    refine lv_bipush (v := 99) hx hb dX6_readFruit_38 (by decide) ?_
    obtain ⟨r5, S4, hc6, h⟩ := sy_c_e h
    refine sy_vi (rest := [.ref (sy_ad E 37)]) fx hA X hl.1 (sy_OReader_o ht) (sy_en6 (sy_OReader_o ht).2) rfl (c_Reader_readNumber l ht hc6) cv_Reader_readNumber wm_252 ⟨Nat.le_of_ble_eq_true rfl, Nat.le_of_ble_eq_true rfl, Nat.le_refl _, Nat.le_refl _⟩ rfl rfl (Nat.le_of_ble_eq_true rfl) dX6_readFruit_40 (fun H locs X => ?_)
    obtain ⟨S7, hS7, h⟩ := sy_b_e h
    refine sy_p3 fx X (sy_OEdge_o (sy_OReader_a1 ht)) 9 (by decide) wm_298 (fun _ h9 => h9) rfl (ty := .int) (by decide +kernel) rfl rfl hS7 sy_s3_9 dX6_readFruit_43 (fun H locs X => ?_)
    refine lv_aload_n hx hb dX6_readFruit_46 rfl (lv_at hl 0 rfl) ?_
    obtain ⟨r9, S8, hc10, h⟩ := sy_c_e h
    refine sy_vv (rest := []) fx hA X hl.1 (sy_OReader_o ht) (sy_en6 (sy_OReader_o ht).2) rfl (c_Reader_readEnd l ht hc10) cv_Reader_readEnd wm_268 ⟨Nat.le_of_ble_eq_true rfl, Nat.le_of_ble_eq_true rfl, Nat.le_refl _, Nat.le_refl _⟩ rfl rfl (Nat.le_of_ble_eq_true rfl) dX6_readFruit_47 (fun H locs X => ?_)
    exact sy_vret fx X hr hlk h dX6_readFruit_50
  · have h := sy_f c1 h
    refine lv_aload_n hx hb dX6_readFruit_7 rfl (lv_at hl 0 rfl) ?_
    refine lv_iconst (v := 3) hx hb dX6_readFruit_8 (by decide) ?_
    refine lv_aload_n hx hb dX6_readFruit_9 rfl (lv_at hl 0 rfl) ?_
    refine sy_g6 fx X (sy_OReader_o ht) 5 (by decide) wm_227 (fun _ h9 => h9) rfl dX6_readFruit_10 ?_
    obtain ⟨r12, S11, hc13, h⟩ := sy_c_e h
    refine sy_vv (rest := []) fx hA X hl.1 (sy_OReader_o ht) (sy_en6 (sy_OReader_o ht).2) rfl (c_Reader_fail l ht hc13) cv_Reader_fail wm_248 ⟨Nat.le_of_ble_eq_true rfl, Nat.le_of_ble_eq_true rfl, Nat.le_refl _, Nat.le_refl _⟩ rfl rfl (Nat.le_of_ble_eq_true rfl) dX6_readFruit_13 (fun H locs X => ?_)
    exact sy_vret fx X hr hlk h dX6_readFruit_16
def m_Reader_readClause (S : sy_St) : sy_R := sy_b (S 35 5 : Int32) fun x1 => sy_g (sy_in x1 250) <| sy_b (S 36 x1.toNatClampNeg : Int32) fun x3 => if x3 = 119 then (sy_c (m_Reader_readWeights S) fun r25 S24 => some (0, S24)) else (if (S 37 7) = 0 then (sy_c (m_Reader_fail 1 (S 35 5) S) fun r22 S21 => some (0, S21)) else (if x3 = 112 then (sy_c (m_Reader_readPerson S) fun r19 S18 => some (0, S18)) else (if x3 = 116 then (sy_c (m_Reader_readGoodness S) fun r16 S15 => some (0, S15)) else (if x3 = 102 then (sy_c (m_Reader_readFruit S) fun r13 S12 => some (0, S12)) else (sy_c (m_Reader_fail 1 (S 35 5) S) fun r10 S9 => some (0, S9))))))
theorem cv_Reader_readClause : sy_cV RX6 yX6_readClause cX6_readClause 2 none 0 := ⟨wm_240, wm_241, wm_21, wm_242, by decide +kernel⟩
set_option maxRecDepth 100000 in
set_option maxHeartbeats 40000000 in
theorem c_Reader_readClause (l : Launch) {E : sy_ET} (ht : sy_OReader E) {S S' : sy_St} {r : Int32} (h : m_Reader_readClause S = some (r, S')) : sy_MV l yX6_readClause cX6_readClause 2 4 92 [.ref (sy_ad E 35)] E S S' := by
  refine sy_MV_of RX6 pn_6 rfl (Nat.le_of_ble_eq_true rfl) (fun p e s m args below meth c A ls fx hr hlk hA X hl => ?_)
  have hx := fx.1
  have hb := fx.2.1
  have hown := fx.2.2.2.1
  have hts := fx.2.2.2.2
  have hl : lv_has ls 2 [(0, .ref (sy_ad E 35))] := hl
  unfold m_Reader_readClause at h
  refine lv_aload_n hx hb dX6_readClause_0 rfl (lv_at hl 0 rfl) ?_
  refine sy_q6 fx X (sy_OReader_o ht) 0 (by decide) wm_106 (fun _ h9 => h9) rfl (sy_OReader_r0 ht) dX6_readClause_1 ?_
  refine lv_aload_n hx hb dX6_readClause_4 rfl (lv_at hl 0 rfl) ?_
  refine sy_g6 fx X (sy_OReader_o ht) 5 (by decide) wm_227 (fun _ h9 => h9) rfl dX6_readClause_5 ?_
  obtain ⟨x1, hx1, h⟩ := sy_b_e h
  refine sy_top hx1 ?_
  obtain ⟨g2, h⟩ := sy_g_e h
  refine sy_iald fx X (sy_OReader_a0 ht) g2 dX6_readClause_8 ?_
  obtain ⟨x3, hx3, h⟩ := sy_b_e h
  refine sy_top hx3 ?_
  refine lv_istore_n (lv' := [(1, .int x3), (0, .ref (sy_ad E 35))]) hx hb dX6_readClause_9 rfl hl (by decide) rfl (fun ls hl => ?_)
  refine lv_iload_n hx hb dX6_readClause_10 rfl (lv_at hl 0 rfl) ?_
  refine lv_bipush (v := 119) hx hb dX6_readClause_11 (by decide) ?_
  refine lv_icmp_ne (tgt := 23) hx hb dX6_readClause_13 (by decide) (fun c4 => ?_) (fun c4 => ?_)
  · have h := sy_f c4 h
    refine lv_aload_n hx hb dX6_readClause_23 rfl (lv_at hl 1 rfl) ?_
    refine sy_q6 fx X (sy_OReader_o ht) 1 (by decide) wm_108 (fun _ h9 => h9) rfl (sy_OReader_r1 ht) dX6_readClause_24 ?_
    refine sy_g3 fx X (sy_OEdge_o (sy_OReader_a1 ht)) 7 (by decide) wm_243 (fun _ h9 => h9) rfl dX6_readClause_27 ?_
    refine lv_if_ne (tgt := 45) hx hb dX6_readClause_30 (by decide) (fun c5 => ?_) (fun c5 => ?_)
    · have h := sy_f c5 h
      refine lv_iload_n hx hb dX6_readClause_45 rfl (lv_at hl 0 rfl) ?_
      refine lv_bipush (v := 112) hx hb dX6_readClause_46 (by decide) ?_
      refine lv_icmp_ne (tgt := 58) hx hb dX6_readClause_48 (by decide) (fun c6 => ?_) (fun c6 => ?_)
      · have h := sy_f c6 h
        refine lv_iload_n hx hb dX6_readClause_58 rfl (lv_at hl 0 rfl) ?_
        refine lv_bipush (v := 116) hx hb dX6_readClause_59 (by decide) ?_
        refine lv_icmp_ne (tgt := 71) hx hb dX6_readClause_61 (by decide) (fun c7 => ?_) (fun c7 => ?_)
        · have h := sy_f c7 h
          refine lv_iload_n hx hb dX6_readClause_71 rfl (lv_at hl 0 rfl) ?_
          refine lv_bipush (v := 102) hx hb dX6_readClause_72 (by decide) ?_
          refine lv_icmp_ne (tgt := 84) hx hb dX6_readClause_74 (by decide) (fun c8 => ?_) (fun c8 => ?_)
          · have h := sy_f c8 h
            refine lv_aload_n hx hb dX6_readClause_84 rfl (lv_at hl 1 rfl) ?_
            refine lv_iconst (v := 1) hx hb dX6_readClause_85 (by decide) ?_
            refine lv_aload_n hx hb dX6_readClause_86 rfl (lv_at hl 1 rfl) ?_
            refine sy_g6 fx X (sy_OReader_o ht) 5 (by decide) wm_227 (fun _ h9 => h9) rfl dX6_readClause_87 ?_
            obtain ⟨r10, S9, hc11, h⟩ := sy_c_e h
            refine sy_vv (rest := []) fx hA X hl.1 (sy_OReader_o ht) (sy_en6 (sy_OReader_o ht).2) rfl (c_Reader_fail l ht hc11) cv_Reader_fail wm_248 ⟨Nat.le_of_ble_eq_true rfl, Nat.le_of_ble_eq_true rfl, Nat.le_refl _, Nat.le_refl _⟩ rfl rfl (Nat.le_of_ble_eq_true rfl) dX6_readClause_90 (fun H locs X => ?_)
            exact sy_vret fx X hr hlk h dX6_readClause_93
          · have h := sy_t c8 h
            refine lv_aload_n hx hb dX6_readClause_77 rfl (lv_at hl 1 rfl) ?_
            obtain ⟨r13, S12, hc14, h⟩ := sy_c_e h
            refine sy_vv (rest := []) fx hA X hl.1 (sy_OReader_o ht) (sy_en6 (sy_OReader_o ht).2) rfl (c_Reader_readFruit l ht hc14) cv_Reader_readFruit wm_294 ⟨Nat.le_of_ble_eq_true rfl, Nat.le_of_ble_eq_true rfl, Nat.le_refl _, Nat.le_refl _⟩ rfl rfl (Nat.le_of_ble_eq_true rfl) dX6_readClause_78 (fun H locs X => ?_)
            refine lv_goto (tgt := 93) hx hb dX6_readClause_81 (by decide) ?_
            exact sy_vret fx X hr hlk h dX6_readClause_93
        · have h := sy_t c7 h
          refine lv_aload_n hx hb dX6_readClause_64 rfl (lv_at hl 1 rfl) ?_
          obtain ⟨r16, S15, hc17, h⟩ := sy_c_e h
          refine sy_vv (rest := []) fx hA X hl.1 (sy_OReader_o ht) (sy_en6 (sy_OReader_o ht).2) rfl (c_Reader_readGoodness l ht hc17) cv_Reader_readGoodness wm_289 ⟨Nat.le_of_ble_eq_true rfl, Nat.le_of_ble_eq_true rfl, Nat.le_refl _, Nat.le_refl _⟩ rfl rfl (Nat.le_of_ble_eq_true rfl) dX6_readClause_65 (fun H locs X => ?_)
          refine lv_goto (tgt := 93) hx hb dX6_readClause_68 (by decide) ?_
          exact sy_vret fx X hr hlk h dX6_readClause_93
      · have h := sy_t c6 h
        refine lv_aload_n hx hb dX6_readClause_51 rfl (lv_at hl 1 rfl) ?_
        obtain ⟨r19, S18, hc20, h⟩ := sy_c_e h
        refine sy_vv (rest := []) fx hA X hl.1 (sy_OReader_o ht) (sy_en6 (sy_OReader_o ht).2) rfl (c_Reader_readPerson l ht hc20) cv_Reader_readPerson wm_272 ⟨Nat.le_of_ble_eq_true rfl, Nat.le_of_ble_eq_true rfl, Nat.le_refl _, Nat.le_refl _⟩ rfl rfl (Nat.le_of_ble_eq_true rfl) dX6_readClause_52 (fun H locs X => ?_)
        refine lv_goto (tgt := 93) hx hb dX6_readClause_55 (by decide) ?_
        exact sy_vret fx X hr hlk h dX6_readClause_93
    · have h := sy_t c5 h
      refine lv_aload_n hx hb dX6_readClause_33 rfl (lv_at hl 1 rfl) ?_
      refine lv_iconst (v := 1) hx hb dX6_readClause_34 (by decide) ?_
      refine lv_aload_n hx hb dX6_readClause_35 rfl (lv_at hl 1 rfl) ?_
      refine sy_g6 fx X (sy_OReader_o ht) 5 (by decide) wm_227 (fun _ h9 => h9) rfl dX6_readClause_36 ?_
      obtain ⟨r22, S21, hc23, h⟩ := sy_c_e h
      refine sy_vv (rest := []) fx hA X hl.1 (sy_OReader_o ht) (sy_en6 (sy_OReader_o ht).2) rfl (c_Reader_fail l ht hc23) cv_Reader_fail wm_248 ⟨Nat.le_of_ble_eq_true rfl, Nat.le_of_ble_eq_true rfl, Nat.le_refl _, Nat.le_refl _⟩ rfl rfl (Nat.le_of_ble_eq_true rfl) dX6_readClause_39 (fun H locs X => ?_)
      refine lv_goto (tgt := 93) hx hb dX6_readClause_42 (by decide) ?_
      exact sy_vret fx X hr hlk h dX6_readClause_93
  · have h := sy_t c4 h
    refine lv_aload_n hx hb dX6_readClause_16 rfl (lv_at hl 1 rfl) ?_
    obtain ⟨r25, S24, hc26, h⟩ := sy_c_e h
    refine sy_vv (rest := []) fx hA X hl.1 (sy_OReader_o ht) (sy_en6 (sy_OReader_o ht).2) rfl (c_Reader_readWeights l ht hc26) cv_Reader_readWeights wm_244 ⟨Nat.le_of_ble_eq_true rfl, Nat.le_of_ble_eq_true rfl, Nat.le_refl _, Nat.le_refl _⟩ rfl rfl (Nat.le_of_ble_eq_true rfl) dX6_readClause_17 (fun H locs X => ?_)
    refine lv_goto (tgt := 93) hx hb dX6_readClause_20 (by decide) ?_
    exact sy_vret fx X hr hlk h dX6_readClause_93
def m_Reader_readText_B34 (kk34 : Int32 → sy_St → sy_R) (y1 : Int32) (S : sy_St) : sy_R := if 250 ≤ y1 then (sy_b (sy_up S 35 2 0) fun S10 => some (0, S10)) else (sy_c (m_Reader_hasMore S) fun r12 S11 => if r12 = 0 then (sy_b (sy_up S11 35 2 0) fun S15 => some (0, S15)) else (sy_c (m_Reader_readClause S11) fun r17 S16 => sy_b (y1 + 1 : Int32) fun x19 => kk34 x19 S16))
def m_Reader_readText (S : sy_St) : sy_R := sy_c (m_Edge_clear 37 S) fun r2 S1 => sy_b (sy_up S1 35 3 0) fun S4 => sy_b (sy_up S4 35 4 (-1)) fun S5 => sy_b (sy_up S5 35 5 0) fun S6 => sy_b (sy_up S6 35 7 0) fun S7 => sy_b (sy_up S7 35 8 0) fun S8 => sy_fix (fun _ _ => none) (m_Reader_readText_B34) sy_F 0 S8
theorem cv_Reader_readText : sy_cV RX6 yX6_readText cX6_readText 2 none 0 := ⟨wm_223, wm_224, wm_21, wm_225, by decide +kernel⟩
set_option maxRecDepth 100000 in
set_option maxHeartbeats 40000000 in
theorem c_Reader_readText (l : Launch) {E : sy_ET} (ht : sy_OReader E) {S S' : sy_St} {r : Int32} (h : m_Reader_readText S = some (r, S')) : sy_MV l yX6_readText cX6_readText 2 5 113 [.ref (sy_ad E 35)] E S S' := by
  refine sy_MV_of RX6 pn_6 rfl (Nat.le_of_ble_eq_true rfl) (fun p e s m args below meth c A ls fx hr hlk hA X hl => ?_)
  have hx := fx.1
  have hb := fx.2.1
  have hown := fx.2.2.2.1
  have hts := fx.2.2.2.2
  have hl : lv_has ls 2 [(0, .ref (sy_ad E 35))] := hl
  have L_34 : ∀ (n34 : Nat) (y1 : Int32) (S : sy_St) (H : Heap) (locs : List Loc) (ls : Array Slot), sy_Wd E A s S H locs → lv_has ls 2 [(0, .ref (sy_ad E 35)), (1, .int y1)] → sy_fix (fun _ _ => none) (m_Reader_readText_B34) n34 y1 S = some (r, S') → W p l e (sy_rm 5 113) s m args below meth c H locs 0 0 (MQ below (sy_Qv E A S') args s 0 0 A) (F0 m 34 ls []) := by
    intro n34
    induction n34 with
    | zero => intro y1 S H locs ls X hl h; have h9 : (none : sy_R) = some (r, S') := h; cases h9
    | succ n34 ih34 =>
      intro y1 S H locs ls X hl h
      have h : m_Reader_readText_B34 (sy_fix (fun _ _ => none) (m_Reader_readText_B34) n34) y1 S = some (r, S') := h
      unfold m_Reader_readText_B34 at h
      refine lv_iload_n hx hb dX6_readText_34 rfl (lv_at hl 1 rfl) ?_
      refine lv_sipush (v := 250) hx hb dX6_readText_35 (by decide) ?_
      refine lv_icmp_ge (tgt := 58) hx hb dX6_readText_38 (by decide) (fun c9 => ?_) (fun c9 => ?_)
      · have h := sy_t c9 h
        refine lv_aload_n hx hb dX6_readText_58 rfl (lv_at hl 0 rfl) ?_
        refine lv_iconst (v := 0) hx hb dX6_readText_59 (by decide) ?_
        obtain ⟨S10, hS10, h⟩ := sy_b_e h
        refine sy_p6 fx X (sy_OReader_o ht) 2 (by decide) wm_203 (fun _ h9 => h9) rfl (ty := .int) (by decide +kernel) rfl rfl hS10 sy_s6_2 dX6_readText_60 (fun H locs X => ?_)
        exact sy_vret fx X hr hlk h dX6_readText_63
      · have h := sy_f c9 h
        refine lv_aload_n hx hb dX6_readText_41 rfl (lv_at hl 0 rfl) ?_
        obtain ⟨r12, S11, hc13, h⟩ := sy_c_e h
        refine sy_vi (rest := []) fx hA X hl.1 (sy_OReader_o ht) (sy_en6 (sy_OReader_o ht).2) rfl (c_Reader_hasMore l ht hc13) cv_Reader_hasMore wm_231 ⟨Nat.le_of_ble_eq_true rfl, Nat.le_of_ble_eq_true rfl, Nat.le_refl _, Nat.le_refl _⟩ rfl rfl (Nat.le_of_ble_eq_true rfl) dX6_readText_42 (fun H locs X => ?_)
        refine lv_if_eq (tgt := 58) hx hb dX6_readText_45 (by decide) (fun c14 => ?_) (fun c14 => ?_)
        · have h := sy_t c14 h
          refine lv_aload_n hx hb dX6_readText_58 rfl (lv_at hl 0 rfl) ?_
          refine lv_iconst (v := 0) hx hb dX6_readText_59 (by decide) ?_
          obtain ⟨S15, hS15, h⟩ := sy_b_e h
          refine sy_p6 fx X (sy_OReader_o ht) 2 (by decide) wm_203 (fun _ h9 => h9) rfl (ty := .int) (by decide +kernel) rfl rfl hS15 sy_s6_2 dX6_readText_60 (fun H locs X => ?_)
          exact sy_vret fx X hr hlk h dX6_readText_63
        · have h := sy_f c14 h
          refine lv_aload_n hx hb dX6_readText_48 rfl (lv_at hl 0 rfl) ?_
          obtain ⟨r17, S16, hc18, h⟩ := sy_c_e h
          refine sy_vv (rest := []) fx hA X hl.1 (sy_OReader_o ht) (sy_en6 (sy_OReader_o ht).2) rfl (c_Reader_readClause l ht hc18) cv_Reader_readClause wm_239 ⟨Nat.le_of_ble_eq_true rfl, Nat.le_of_ble_eq_true rfl, Nat.le_refl _, Nat.le_refl _⟩ rfl rfl (Nat.le_of_ble_eq_true rfl) dX6_readText_49 (fun H locs X => ?_)
          obtain ⟨x19, hx19, h⟩ := sy_b_e h
          refine lv_iinc (v := x19) (lv' := [(1, .int x19), (0, .ref (sy_ad E 35))]) hx hb dX6_readText_52 hl (k := 1) rfl (by rw [hx19]; rfl) (by decide) rfl (fun ls hl => ?_)
          refine lv_goto (tgt := 34) hx hb dX6_readText_55 (by decide) ?_
          exact ih34 x19 S16 _ _ _ X (lv_sub hl [1, 0] rfl) h
  unfold m_Reader_readText at h
  refine lv_aload_n hx hb dX6_readText_0 rfl (lv_at hl 0 rfl) ?_
  refine sy_q6 fx X (sy_OReader_o ht) 1 (by decide) wm_108 (fun _ h9 => h9) rfl (sy_OReader_r1 ht) dX6_readText_1 ?_
  obtain ⟨r2, S1, hc3, h⟩ := sy_c_e h
  refine sy_vv (rest := []) fx hA X hl.1 (sy_OEdge_o (sy_OReader_a1 ht)) (sy_en3 (sy_OEdge_o (sy_OReader_a1 ht)).2) rfl (c_Edge_clear l (sy_OReader_a1 ht) hc3) cv_Edge_clear wm_230 ⟨Nat.le_of_ble_eq_true rfl, Nat.le_of_ble_eq_true rfl, Nat.le_refl _, Nat.le_refl _⟩ rfl rfl (Nat.le_of_ble_eq_true rfl) dX6_readText_4 (fun H locs X => ?_)
  refine lv_aload_n hx hb dX6_readText_7 rfl (lv_at hl 0 rfl) ?_
  refine lv_iconst (v := 0) hx hb dX6_readText_8 (by decide) ?_
  obtain ⟨S4, hS4, h⟩ := sy_b_e h
  refine sy_p6 fx X (sy_OReader_o ht) 3 (by decide) wm_226 (fun _ h9 => h9) rfl (ty := .int) (by decide +kernel) rfl rfl hS4 sy_s6_3 dX6_readText_9 (fun H locs X => ?_)
  refine lv_aload_n hx hb dX6_readText_12 rfl (lv_at hl 0 rfl) ?_
  refine lv_iconst (v := (-1)) hx hb dX6_readText_13 (by decide) ?_
  obtain ⟨S5, hS5, h⟩ := sy_b_e h
  refine sy_p6 fx X (sy_OReader_o ht) 4 (by decide) wm_109 (fun _ h9 => h9) rfl (ty := .int) (by decide +kernel) rfl rfl hS5 sy_s6_4 dX6_readText_14 (fun H locs X => ?_)
  refine lv_aload_n hx hb dX6_readText_17 rfl (lv_at hl 0 rfl) ?_
  refine lv_iconst (v := 0) hx hb dX6_readText_18 (by decide) ?_
  obtain ⟨S6, hS6, h⟩ := sy_b_e h
  refine sy_p6 fx X (sy_OReader_o ht) 5 (by decide) wm_227 (fun _ h9 => h9) rfl (ty := .int) (by decide +kernel) rfl rfl hS6 sy_s6_5 dX6_readText_19 (fun H locs X => ?_)
  refine lv_aload_n hx hb dX6_readText_22 rfl (lv_at hl 0 rfl) ?_
  refine lv_iconst (v := 0) hx hb dX6_readText_23 (by decide) ?_
  obtain ⟨S7, hS7, h⟩ := sy_b_e h
  refine sy_p6 fx X (sy_OReader_o ht) 7 (by decide) wm_228 (fun _ h9 => h9) rfl (ty := .boolean) (by decide +kernel) rfl rfl hS7 sy_s6_7 dX6_readText_24 (fun H locs X => ?_)
  refine lv_aload_n hx hb dX6_readText_27 rfl (lv_at hl 0 rfl) ?_
  refine lv_iconst (v := 0) hx hb dX6_readText_28 (by decide) ?_
  obtain ⟨S8, hS8, h⟩ := sy_b_e h
  refine sy_p6 fx X (sy_OReader_o ht) 8 (by decide) wm_229 (fun _ h9 => h9) rfl (ty := .boolean) (by decide +kernel) rfl rfl hS8 sy_s6_8 dX6_readText_29 (fun H locs X => ?_)
  refine lv_iconst (v := 0) hx hb dX6_readText_32 (by decide) ?_
  refine lv_istore_n (lv' := [(1, .int 0), (0, .ref (sy_ad E 35))]) hx hb dX6_readText_33 rfl hl (by decide) rfl (fun ls hl => ?_)
  exact L_34 sy_F 0 S8 _ _ _ X (lv_sub hl [1, 0] rfl) h
def m_Seen_endRow_J57 (y1 : Int32) (S : sy_St) : sy_R := sy_b (sy_up S 374 9 ((S 374 9) &&& y1)) fun S10 => sy_b (sy_up S10 374 8 ((S10 374 8) + 1)) fun S11 => some (0, S11)
def m_Seen_endRow_B4 (kk4 : Int32 → Int32 → sy_St → sy_R) (y1 : Int32) (y2 : Int32) (S : sy_St) : sy_R := if 6 ≤ y2 then (if (S 374 8) = 0 then (sy_b (sy_up S 374 9 y1) fun S3 => sy_b (sy_cp S3 375 378 0 0 5) fun S4 => m_Seen_endRow_J57 y1 S4) else (m_Seen_endRow_J57 y1 S)) else (sy_g (sy_in y2 6) <| if (S 376 y2.toNatClampNeg) ≤ 0 then (sy_b (y2 + 1 : Int32) fun x7 => kk4 y1 x7 S) else (sy_b (y1 ||| (1 <<< (y2 &&& 31)) : Int32) fun x8 => sy_b (y2 + 1 : Int32) fun x9 => kk4 x8 x9 S))
def m_Seen_endRow (S : sy_St) : sy_R := sy_fix (fun _ _ _ => none) (m_Seen_endRow_B4) sy_F 0 0 S
set_option maxRecDepth 100000 in
set_option maxHeartbeats 40000000 in
theorem c_Seen_endRow (l : Launch) {E : sy_ET} (ht : sy_OSeen E) {S S' : sy_St} {r : Int32} (h : m_Seen_endRow S = some (r, S')) : sy_MV l yX8_endRow cX8_endRow 3 1 60 [.ref (sy_ad E 374)] E S S' := by
  refine sy_MV_of RX8 pn_8 rfl (Nat.le_of_ble_eq_true rfl) (fun p e s m args below meth c A ls fx hr hlk hA X hl => ?_)
  have hx := fx.1
  have hb := fx.2.1
  have hown := fx.2.2.2.1
  have hts := fx.2.2.2.2
  have hl : lv_has ls 3 [(0, .ref (sy_ad E 374))] := hl
  have J_57 : ∀ (y1 : Int32) (S : sy_St) (H : Heap) (locs : List Loc) (ls : Array Slot), sy_Wd E A s S H locs → lv_has ls 3 [(0, .ref (sy_ad E 374)), (1, .int y1)] → m_Seen_endRow_J57 y1 S = some (r, S') → W p l e (sy_rm 1 60) s m args below meth c H locs 0 0 (MQ below (sy_Qv E A S') args s 0 0 A) (F0 m 57 ls []) := by
    intro y1 S H locs ls X hl h
    unfold m_Seen_endRow_J57 at h
    refine lv_aload_n hx hb dX8_endRow_57 rfl (lv_at hl 0 rfl) ?_
    refine lv_dup hx hb dX8_endRow_58 rfl ?_
    refine sy_g7 fx X (sy_OSeen_o ht) 9 (by decide) wm_718 (fun _ h9 => h9) rfl dX8_endRow_59 ?_
    refine lv_iload_n hx hb dX8_endRow_62 rfl (lv_at hl 1 rfl) ?_
    refine lv_iand hx hb dX8_endRow_63 ?_
    obtain ⟨S10, hS10, h⟩ := sy_b_e h
    refine sy_p7 fx X (sy_OSeen_o ht) 9 (by decide) wm_718 (fun _ h9 => h9) rfl (ty := .int) (by decide +kernel) rfl rfl hS10 sy_s7_9 dX8_endRow_64 (fun H locs X => ?_)
    refine lv_aload_n hx hb dX8_endRow_67 rfl (lv_at hl 0 rfl) ?_
    refine lv_dup hx hb dX8_endRow_68 rfl ?_
    refine sy_g7 fx X (sy_OSeen_o ht) 8 (by decide) wm_717 (fun _ h9 => h9) rfl dX8_endRow_69 ?_
    refine lv_iconst (v := 1) hx hb dX8_endRow_72 (by decide) ?_
    refine lv_iadd hx hb dX8_endRow_73 ?_
    obtain ⟨S11, hS11, h⟩ := sy_b_e h
    refine sy_p7 fx X (sy_OSeen_o ht) 8 (by decide) wm_717 (fun _ h9 => h9) rfl (ty := .int) (by decide +kernel) rfl rfl hS11 sy_s7_8 dX8_endRow_74 (fun H locs X => ?_)
    exact sy_vret fx X hr hlk h dX8_endRow_77
  have L_4 : ∀ (n4 : Nat) (y1 y2 : Int32) (S : sy_St) (H : Heap) (locs : List Loc) (ls : Array Slot), sy_Wd E A s S H locs → lv_has ls 3 [(0, .ref (sy_ad E 374)), (1, .int y1), (2, .int y2)] → sy_fix (fun _ _ _ => none) (m_Seen_endRow_B4) n4 y1 y2 S = some (r, S') → W p l e (sy_rm 1 60) s m args below meth c H locs 0 0 (MQ below (sy_Qv E A S') args s 0 0 A) (F0 m 4 ls []) := by
    intro n4
    induction n4 with
    | zero => intro y1 y2 S H locs ls X hl h; have h9 : (none : sy_R) = some (r, S') := h; cases h9
    | succ n4 ih4 =>
      intro y1 y2 S H locs ls X hl h
      have h : m_Seen_endRow_B4 (sy_fix (fun _ _ _ => none) (m_Seen_endRow_B4) n4) y1 y2 S = some (r, S') := h
      unfold m_Seen_endRow_B4 at h
      refine lv_iload_n hx hb dX8_endRow_4 rfl (lv_at hl 2 rfl) ?_
      refine lv_bipush (v := 6) hx hb dX8_endRow_5 (by decide) ?_
      refine lv_icmp_ge (tgt := 31) hx hb dX8_endRow_7 (by decide) (fun c1 => ?_) (fun c1 => ?_)
      · have h := sy_t c1 h
        refine lv_aload_n hx hb dX8_endRow_31 rfl (lv_at hl 0 rfl) ?_
        refine sy_g7 fx X (sy_OSeen_o ht) 8 (by decide) wm_717 (fun _ h9 => h9) rfl dX8_endRow_32 ?_
        refine lv_if_ne (tgt := 57) hx hb dX8_endRow_35 (by decide) (fun c2 => ?_) (fun c2 => ?_)
        · have h := sy_f c2 h
          exact J_57 y1 S _ _ _ X (lv_sub hl [0, 1] rfl) h
        · have h := sy_t c2 h
          refine lv_aload_n hx hb dX8_endRow_38 rfl (lv_at hl 0 rfl) ?_
          refine lv_iload_n hx hb dX8_endRow_39 rfl (lv_at hl 1 rfl) ?_
          obtain ⟨S3, hS3, h⟩ := sy_b_e h
          refine sy_p7 fx X (sy_OSeen_o ht) 9 (by decide) wm_718 (fun _ h9 => h9) rfl (ty := .int) (by decide +kernel) rfl rfl hS3 sy_s7_9 dX8_endRow_40 (fun H locs X => ?_)
          refine lv_aload_n hx hb dX8_endRow_43 rfl (lv_at hl 0 rfl) ?_
          refine sy_q7 fx X (sy_OSeen_o ht) 2 (by decide) wm_719 (u_same (hts _ wm_720)) rfl (sy_OSeen_r2 ht) dX8_endRow_44 ?_
          refine lv_iconst (v := 0) hx hb dX8_endRow_47 (by decide) ?_
          refine lv_aload_n hx hb dX8_endRow_48 rfl (lv_at hl 0 rfl) ?_
          refine sy_q7 fx X (sy_OSeen_o ht) 6 (by decide) wm_135 (fun _ h9 => h9) rfl (sy_OSeen_r6 ht) dX8_endRow_49 ?_
          refine lv_iconst (v := 0) hx hb dX8_endRow_52 (by decide) ?_
          refine lv_iconst (v := 5) hx hb dX8_endRow_53 (by decide) ?_
          obtain ⟨S4, hS4, h⟩ := sy_b_e h
          refine sy_cpy (rest := []) fx X hl.1 (sy_OSeen_a2 ht) (sy_OSeen_a6 ht) wm_721 wm_304 wm_305 wm_306 (by decide) (by decide) (by decide) (by decide) (by decide) (Nat.le_of_ble_eq_true rfl) (by decide) hS4 dX8_endRow_54 (fun H locs X => ?_)
          exact J_57 y1 S4 _ _ _ X (lv_sub hl [0, 1] rfl) h
      · have h := sy_f c1 h
        refine lv_aload_n hx hb dX8_endRow_10 rfl (lv_at hl 0 rfl) ?_
        refine sy_q7 fx X (sy_OSeen_o ht) 3 (by decide) wm_715 (u_same (hts _ wm_716)) rfl (sy_OSeen_r3 ht) dX8_endRow_11 ?_
        refine lv_iload_n hx hb dX8_endRow_14 rfl (lv_at hl 2 rfl) ?_
        obtain ⟨g5, h⟩ := sy_g_e h
        refine sy_iald fx X (sy_OSeen_a3 ht) g5 dX8_endRow_15 ?_
        refine lv_if_le (tgt := 25) hx hb dX8_endRow_16 (by decide) (fun c6 => ?_) (fun c6 => ?_)
        · have h := sy_t c6 h
          obtain ⟨x7, hx7, h⟩ := sy_b_e h
          refine lv_iinc (v := x7) (lv' := [(2, .int x7), (0, .ref (sy_ad E 374)), (1, .int y1)]) hx hb dX8_endRow_25 hl (k := 2) rfl (by rw [hx7]; rfl) (by decide) rfl (fun ls hl => ?_)
          refine lv_goto (tgt := 4) hx hb dX8_endRow_28 (by decide) ?_
          exact ih4 y1 x7 S _ _ _ X (lv_sub hl [1, 2, 0] rfl) h
        · have h := sy_f c6 h
          refine lv_iload_n hx hb dX8_endRow_19 rfl (lv_at hl 1 rfl) ?_
          refine lv_iconst (v := 1) hx hb dX8_endRow_20 (by decide) ?_
          refine lv_iload_n hx hb dX8_endRow_21 rfl (lv_at hl 2 rfl) ?_
          refine lv_ishl hx hb dX8_endRow_22 ?_
          refine lv_ior hx hb dX8_endRow_23 ?_
          obtain ⟨x8, hx8, h⟩ := sy_b_e h
          refine sy_top hx8 ?_
          refine lv_istore_n (lv' := [(1, .int x8), (0, .ref (sy_ad E 374)), (2, .int y2)]) hx hb dX8_endRow_24 rfl hl (by decide) rfl (fun ls hl => ?_)
          obtain ⟨x9, hx9, h⟩ := sy_b_e h
          refine lv_iinc (v := x9) (lv' := [(2, .int x9), (1, .int x8), (0, .ref (sy_ad E 374))]) hx hb dX8_endRow_25 hl (k := 2) rfl (by rw [hx9]; rfl) (by decide) rfl (fun ls hl => ?_)
          refine lv_goto (tgt := 4) hx hb dX8_endRow_28 (by decide) ?_
          exact ih4 x8 x9 S _ _ _ X (lv_sub hl [2, 1, 0] rfl) h
  unfold m_Seen_endRow at h
  refine lv_iconst (v := 0) hx hb dX8_endRow_0 (by decide) ?_
  refine lv_istore_n (lv' := [(1, .int 0), (0, .ref (sy_ad E 374))]) hx hb dX8_endRow_1 rfl hl (by decide) rfl (fun ls hl => ?_)
  refine lv_iconst (v := 0) hx hb dX8_endRow_2 (by decide) ?_
  refine lv_istore_n (lv' := [(2, .int 0), (1, .int 0), (0, .ref (sy_ad E 374))]) hx hb dX8_endRow_3 rfl hl (by decide) rfl (fun ls hl => ?_)
  exact L_4 sy_F 0 0 S _ _ _ X (lv_sub hl [2, 1, 0] rfl) h
def m_Sky_forceOf_J114 (k : Nat) (y2 : Int32) (y3 : Int32) (t0 : Int32) (S : sy_St) : sy_R := if t0 = 0 then (if y2 = 4 then (some (y3 + 2, S)) else (some (y3, S))) else (sy_b (y3 / 2 : Int32) fun x20 => if y2 = 4 then (some (x20 + 2, S)) else (some (x20, S)))
def m_Sky_forceOf_J113 (k : Nat) (y2 : Int32) (y3 : Int32) (S : sy_St) : sy_R := m_Sky_forceOf_J114 k y2 y3 0 S
def m_Sky_forceOf_J99 (k : Nat) (y2 : Int32) (y3 : Int32) (S : sy_St) : sy_R := if ((S k 5) - (S k 5) / 3 * 3) = 2 then (m_Sky_forceOf_J114 k y2 y3 1 S) else (m_Sky_forceOf_J113 k y2 y3 S)
def m_Sky_forceOf_J66 (k : Nat) (y1 : Int32) (y2 : Int32) (S : sy_St) : sy_R := sy_g (sy_in y1 6) <| sy_g (sy_in y1 6) <| sy_b (sy_max 0 ((S 4 y1.toNatClampNeg) - ((S (k + 1) y1.toNatClampNeg) / 2)) : Int32) fun x15 => if y2 = 3 then (m_Sky_forceOf_J99 k y2 x15 S) else (if y2 = 4 then (m_Sky_forceOf_J99 k y2 x15 S) else (m_Sky_forceOf_J113 k y2 x15 S))
def m_Sky_forceOf (k : Nat) (p0 : Int32) (S : sy_St) : sy_R := sy_c (m_Edge_isPerson 1 p0 S) fun r2 S1 => if r2 = 0 then (some (0, S1)) else (sy_g (sy_in p0 6) <| sy_b (S1 3 p0.toNatClampNeg : Int32) fun x6 => if x6 = 2 then (sy_g (sy_in p0 6) <| if (S1 (k + 3) p0.toNatClampNeg) ≤ 0 then (sy_g (sy_in p0 6) <| some (S1 4 p0.toNatClampNeg, S1)) else (some (0, S1))) else (if x6 = 4 then (if 1 ≤ (S1 k 8) then (m_Sky_forceOf_J66 k p0 x6 S1) else (some (0, S1))) else (m_Sky_forceOf_J66 k p0 x6 S1)))
theorem cv_Sky_forceOf : sy_cV RX10 yX10_forceOf cX10_forceOf 5 (some .int) 1 := ⟨wm_407, wm_408, wm_17, wm_409, by decide +kernel⟩
set_option maxRecDepth 100000 in
set_option maxHeartbeats 40000000 in
theorem c_Sky_forceOf (l : Launch) {E : sy_ET} {k : Nat} (ht : sy_OSky E k) {p0 : Int32} {S S' : sy_St} {r : Int32} (h : m_Sky_forceOf k p0 S = some (r, S')) : sy_MI l yX10_forceOf cX10_forceOf 5 (some .int) 1 30 [.ref (sy_ad E k), .int p0] E S r S' := by
  refine sy_MI_of RX10 pn_10 rfl (Nat.le_of_ble_eq_true rfl) (fun p e s m args below meth c A ls fx hr hlk hA X hl => ?_)
  have hx := fx.1
  have hb := fx.2.1
  have hown := fx.2.2.2.1
  have hts := fx.2.2.2.2
  have hl : lv_has ls 5 [(0, .ref (sy_ad E k)), (1, .int p0)] := hl
  have J_114 : ∀ (y2 y3 t0 : Int32) (S : sy_St) (H : Heap) (locs : List Loc) (ls : Array Slot), sy_Wd E A s S H locs → lv_has ls 5 [(2, .int y2), (3, .int y3)] → m_Sky_forceOf_J114 k y2 y3 t0 S = some (r, S') → W p l e (sy_rm 1 30) s m args below meth c H locs 0 0 (MQ below (sy_Qi E A r S') args s 0 0 A) (F0 m 114 ls [.int t0]) := by
    intro y2 y3 t0 S H locs ls X hl h
    unfold m_Sky_forceOf_J114 at h
    refine lv_istore (lv' := [(4, .int t0), (2, .int y2), (3, .int y3)]) hx hb dX10_forceOf_114 hl (by decide) rfl (fun ls hl => ?_)
    refine lv_iload hx hb dX10_forceOf_116 (lv_at hl 0 rfl) ?_
    refine lv_if_eq (tgt := 125) hx hb dX10_forceOf_118 (by decide) (fun c18 => ?_) (fun c18 => ?_)
    · have h := sy_t c18 h
      refine lv_iload_n hx hb dX10_forceOf_125 rfl (lv_at hl 1 rfl) ?_
      refine lv_iconst (v := 4) hx hb dX10_forceOf_126 (by decide) ?_
      refine lv_icmp_ne (tgt := 136) hx hb dX10_forceOf_127 (by decide) (fun c19 => ?_) (fun c19 => ?_)
      · have h := sy_f c19 h
        refine lv_iload_n hx hb dX10_forceOf_136 rfl (lv_at hl 2 rfl) ?_
        exact sy_iret fx X hr hlk h dX10_forceOf_137
      · have h := sy_t c19 h
        refine lv_iload_n hx hb dX10_forceOf_130 rfl (lv_at hl 2 rfl) ?_
        refine lv_iconst (v := 2) hx hb dX10_forceOf_131 (by decide) ?_
        refine lv_iadd hx hb dX10_forceOf_132 ?_
        refine lv_goto (tgt := 137) hx hb dX10_forceOf_133 (by decide) ?_
        exact sy_iret fx X hr hlk h dX10_forceOf_137
    · have h := sy_f c18 h
      refine lv_iload_n hx hb dX10_forceOf_121 rfl (lv_at hl 2 rfl) ?_
      refine lv_iconst (v := 2) hx hb dX10_forceOf_122 (by decide) ?_
      refine lv_idiv hx hb dX10_forceOf_123 (by decide) ?_
      obtain ⟨x20, hx20, h⟩ := sy_b_e h
      refine sy_top hx20 ?_
      refine lv_istore_n (lv' := [(3, .int x20), (4, .int t0), (2, .int y2)]) hx hb dX10_forceOf_124 rfl hl (by decide) rfl (fun ls hl => ?_)
      refine lv_iload_n hx hb dX10_forceOf_125 rfl (lv_at hl 2 rfl) ?_
      refine lv_iconst (v := 4) hx hb dX10_forceOf_126 (by decide) ?_
      refine lv_icmp_ne (tgt := 136) hx hb dX10_forceOf_127 (by decide) (fun c21 => ?_) (fun c21 => ?_)
      · have h := sy_f c21 h
        refine lv_iload_n hx hb dX10_forceOf_136 rfl (lv_at hl 0 rfl) ?_
        exact sy_iret fx X hr hlk h dX10_forceOf_137
      · have h := sy_t c21 h
        refine lv_iload_n hx hb dX10_forceOf_130 rfl (lv_at hl 0 rfl) ?_
        refine lv_iconst (v := 2) hx hb dX10_forceOf_131 (by decide) ?_
        refine lv_iadd hx hb dX10_forceOf_132 ?_
        refine lv_goto (tgt := 137) hx hb dX10_forceOf_133 (by decide) ?_
        exact sy_iret fx X hr hlk h dX10_forceOf_137
  have J_113 : ∀ (y2 y3 : Int32) (S : sy_St) (H : Heap) (locs : List Loc) (ls : Array Slot), sy_Wd E A s S H locs → lv_has ls 5 [(2, .int y2), (3, .int y3)] → m_Sky_forceOf_J113 k y2 y3 S = some (r, S') → W p l e (sy_rm 1 30) s m args below meth c H locs 0 0 (MQ below (sy_Qi E A r S') args s 0 0 A) (F0 m 113 ls []) := by
    intro y2 y3 S H locs ls X hl h
    unfold m_Sky_forceOf_J113 at h
    refine lv_iconst (v := 0) hx hb dX10_forceOf_113 (by decide) ?_
    exact J_114 y2 y3 0 S _ _ _ X (lv_sub hl [0, 1] rfl) h
  have J_99 : ∀ (y2 y3 : Int32) (S : sy_St) (H : Heap) (locs : List Loc) (ls : Array Slot), sy_Wd E A s S H locs → lv_has ls 5 [(0, .ref (sy_ad E k)), (2, .int y2), (3, .int y3)] → m_Sky_forceOf_J99 k y2 y3 S = some (r, S') → W p l e (sy_rm 1 30) s m args below meth c H locs 0 0 (MQ below (sy_Qi E A r S') args s 0 0 A) (F0 m 99 ls []) := by
    intro y2 y3 S H locs ls X hl h
    unfold m_Sky_forceOf_J99 at h
    refine lv_aload_n hx hb dX10_forceOf_99 rfl (lv_at hl 0 rfl) ?_
    refine sy_g9 fx X (sy_OSky_o ht) 5 (by decide) wm_95 (fun _ h9 => h9) rfl dX10_forceOf_100 ?_
    refine lv_iconst (v := 3) hx hb dX10_forceOf_103 (by decide) ?_
    refine lv_irem hx hb dX10_forceOf_104 (by decide) ?_
    refine lv_iconst (v := 2) hx hb dX10_forceOf_105 (by decide) ?_
    refine lv_icmp_ne (tgt := 113) hx hb dX10_forceOf_106 (by decide) (fun c22 => ?_) (fun c22 => ?_)
    · have h := sy_f c22 h
      exact J_113 y2 y3 S _ _ _ X (lv_sub hl [1, 2] rfl) h
    · have h := sy_t c22 h
      refine lv_iconst (v := 1) hx hb dX10_forceOf_109 (by decide) ?_
      refine lv_goto (tgt := 114) hx hb dX10_forceOf_110 (by decide) ?_
      exact J_114 y2 y3 1 S _ _ _ X (lv_sub hl [1, 2] rfl) h
  have J_66 : ∀ (y1 y2 : Int32) (S : sy_St) (H : Heap) (locs : List Loc) (ls : Array Slot), sy_Wd E A s S H locs → lv_has ls 5 [(0, .ref (sy_ad E k)), (1, .int y1), (2, .int y2)] → m_Sky_forceOf_J66 k y1 y2 S = some (r, S') → W p l e (sy_rm 1 30) s m args below meth c H locs 0 0 (MQ below (sy_Qi E A r S') args s 0 0 A) (F0 m 66 ls []) := by
    intro y1 y2 S H locs ls X hl h
    unfold m_Sky_forceOf_J66 at h
    refine lv_iconst (v := 0) hx hb dX10_forceOf_66 (by decide) ?_
    refine lv_aload_n hx hb dX10_forceOf_67 rfl (lv_at hl 0 rfl) ?_
    refine sy_q9 fx X (sy_OSky_o ht) 0 (by decide) wm_90 (fun _ h9 => h9) rfl (sy_OSky_r0 ht) dX10_forceOf_68 ?_
    refine sy_q3 fx X (sy_OEdge_o (sy_OSky_a0 ht)) 2 (by decide) wm_411 (fun _ h9 => h9) rfl (sy_OEdge_r2 (sy_OSky_a0 ht)) dX10_forceOf_71 ?_
    refine lv_iload_n hx hb dX10_forceOf_74 rfl (lv_at hl 1 rfl) ?_
    obtain ⟨g13, h⟩ := sy_g_e h
    refine sy_iald fx X (sy_OEdge_a2 (sy_OSky_a0 ht)) g13 dX10_forceOf_75 ?_
    refine lv_aload_n hx hb dX10_forceOf_76 rfl (lv_at hl 0 rfl) ?_
    refine sy_q9 fx X (sy_OSky_o ht) 1 (by decide) wm_86 (fun _ h9 => h9) rfl (sy_OSky_r1 ht) dX10_forceOf_77 ?_
    refine lv_iload_n hx hb dX10_forceOf_80 rfl (lv_at hl 1 rfl) ?_
    obtain ⟨g14, h⟩ := sy_g_e h
    refine sy_iald fx X (sy_OSky_a1 ht) g14 dX10_forceOf_81 ?_
    refine lv_iconst (v := 2) hx hb dX10_forceOf_82 (by decide) ?_
    refine lv_idiv hx hb dX10_forceOf_83 (by decide) ?_
    refine lv_isub hx hb dX10_forceOf_84 ?_
    refine va_mmax (rest := []) hx hb (fx.2.2.1.trans hl.1.symm) hown (hts _ wm_412) (hts _ wm_413) (hts _ wm_414) (hts _ wm_415) (Nat.le_of_ble_eq_true rfl) (Nat.le_of_ble_eq_true rfl) (Nat.le_refl _) (Nat.le_refl _) dX10_forceOf_85 ?_
    obtain ⟨x15, hx15, h⟩ := sy_b_e h
    refine sy_top hx15 ?_
    refine lv_istore_n (lv' := [(3, .int x15), (0, .ref (sy_ad E k)), (1, .int y1), (2, .int y2)]) hx hb dX10_forceOf_88 rfl hl (by decide) rfl (fun ls hl => ?_)
    refine lv_iload_n hx hb dX10_forceOf_89 rfl (lv_at hl 3 rfl) ?_
    refine lv_iconst (v := 3) hx hb dX10_forceOf_90 (by decide) ?_
    refine lv_icmp_eq (tgt := 99) hx hb dX10_forceOf_91 (by decide) (fun c16 => ?_) (fun c16 => ?_)
    · have h := sy_t c16 h
      exact J_99 y2 x15 S _ _ _ X (lv_sub hl [1, 3, 0] rfl) h
    · have h := sy_f c16 h
      refine lv_iload_n hx hb dX10_forceOf_94 rfl (lv_at hl 3 rfl) ?_
      refine lv_iconst (v := 4) hx hb dX10_forceOf_95 (by decide) ?_
      refine lv_icmp_ne (tgt := 113) hx hb dX10_forceOf_96 (by decide) (fun c17 => ?_) (fun c17 => ?_)
      · have h := sy_f c17 h
        exact J_113 y2 x15 S _ _ _ X (lv_sub hl [3, 0] rfl) h
      · have h := sy_t c17 h
        exact J_99 y2 x15 S _ _ _ X (lv_sub hl [1, 3, 0] rfl) h
  unfold m_Sky_forceOf at h
  refine lv_aload_n hx hb dX10_forceOf_0 rfl (lv_at hl 0 rfl) ?_
  refine sy_q9 fx X (sy_OSky_o ht) 0 (by decide) wm_90 (fun _ h9 => h9) rfl (sy_OSky_r0 ht) dX10_forceOf_1 ?_
  refine lv_iload_n hx hb dX10_forceOf_4 rfl (lv_at hl 1 rfl) ?_
  obtain ⟨r2, S1, hc3, h⟩ := sy_c_e h
  refine sy_vi (rest := []) fx hA X hl.1 (sy_OEdge_o (sy_OSky_a0 ht)) (sy_en3 (sy_OEdge_o (sy_OSky_a0 ht)).2) rfl (c_Edge_isPerson l (sy_OSky_a0 ht) hc3) cv_Edge_isPerson wm_416 ⟨Nat.le_of_ble_eq_true rfl, Nat.le_of_ble_eq_true rfl, Nat.le_refl _, Nat.le_refl _⟩ rfl rfl (Nat.le_of_ble_eq_true rfl) dX10_forceOf_5 (fun H locs X => ?_)
  refine lv_if_ne (tgt := 13) hx hb dX10_forceOf_8 (by decide) (fun c4 => ?_) (fun c4 => ?_)
  · have h := sy_f c4 h
    refine lv_aload_n hx hb dX10_forceOf_13 rfl (lv_at hl 0 rfl) ?_
    refine sy_q9 fx X (sy_OSky_o ht) 0 (by decide) wm_90 (fun _ h9 => h9) rfl (sy_OSky_r0 ht) dX10_forceOf_14 ?_
    refine sy_q3 fx X (sy_OEdge_o (sy_OSky_a0 ht)) 1 (by decide) wm_410 (fun _ h9 => h9) rfl (sy_OEdge_r1 (sy_OSky_a0 ht)) dX10_forceOf_17 ?_
    refine lv_iload_n hx hb dX10_forceOf_20 rfl (lv_at hl 1 rfl) ?_
    obtain ⟨g5, h⟩ := sy_g_e h
    refine sy_iald fx X (sy_OEdge_a1 (sy_OSky_a0 ht)) g5 dX10_forceOf_21 ?_
    obtain ⟨x6, hx6, h⟩ := sy_b_e h
    refine sy_top hx6 ?_
    refine lv_istore_n (lv' := [(2, .int x6), (0, .ref (sy_ad E k)), (1, .int p0)]) hx hb dX10_forceOf_22 rfl hl (by decide) rfl (fun ls hl => ?_)
    refine lv_iload_n hx hb dX10_forceOf_23 rfl (lv_at hl 0 rfl) ?_
    refine lv_iconst (v := 2) hx hb dX10_forceOf_24 (by decide) ?_
    refine lv_icmp_ne (tgt := 51) hx hb dX10_forceOf_25 (by decide) (fun c7 => ?_) (fun c7 => ?_)
    · have h := sy_f c7 h
      refine lv_iload_n hx hb dX10_forceOf_51 rfl (lv_at hl 0 rfl) ?_
      refine lv_iconst (v := 4) hx hb dX10_forceOf_52 (by decide) ?_
      refine lv_icmp_ne (tgt := 66) hx hb dX10_forceOf_53 (by decide) (fun c8 => ?_) (fun c8 => ?_)
      · have h := sy_f c8 h
        exact J_66 p0 x6 S1 _ _ _ X (lv_sub hl [1, 2, 0] rfl) h
      · have h := sy_t c8 h
        refine lv_aload_n hx hb dX10_forceOf_56 rfl (lv_at hl 1 rfl) ?_
        refine sy_g9 fx X (sy_OSky_o ht) 8 (by decide) wm_99 (fun _ h9 => h9) rfl dX10_forceOf_57 ?_
        refine lv_iconst (v := 1) hx hb dX10_forceOf_60 (by decide) ?_
        refine lv_icmp_ge (tgt := 66) hx hb dX10_forceOf_61 (by decide) (fun c9 => ?_) (fun c9 => ?_)
        · have h := sy_t c9 h
          exact J_66 p0 x6 S1 _ _ _ X (lv_sub hl [1, 2, 0] rfl) h
        · have h := sy_f c9 h
          refine lv_iconst (v := 0) hx hb dX10_forceOf_64 (by decide) ?_
          exact sy_iret fx X hr hlk h dX10_forceOf_65
    · have h := sy_t c7 h
      refine lv_aload_n hx hb dX10_forceOf_28 rfl (lv_at hl 1 rfl) ?_
      refine sy_q9 fx X (sy_OSky_o ht) 3 (by decide) wm_88 (fun _ h9 => h9) rfl (sy_OSky_r3 ht) dX10_forceOf_29 ?_
      refine lv_iload_n hx hb dX10_forceOf_32 rfl (lv_at hl 2 rfl) ?_
      obtain ⟨g10, h⟩ := sy_g_e h
      refine sy_iald fx X (sy_OSky_a3 ht) g10 dX10_forceOf_33 ?_
      refine lv_if_le (tgt := 41) hx hb dX10_forceOf_34 (by decide) (fun c11 => ?_) (fun c11 => ?_)
      · have h := sy_t c11 h
        refine lv_aload_n hx hb dX10_forceOf_41 rfl (lv_at hl 1 rfl) ?_
        refine sy_q9 fx X (sy_OSky_o ht) 0 (by decide) wm_90 (fun _ h9 => h9) rfl (sy_OSky_r0 ht) dX10_forceOf_42 ?_
        refine sy_q3 fx X (sy_OEdge_o (sy_OSky_a0 ht)) 2 (by decide) wm_411 (fun _ h9 => h9) rfl (sy_OEdge_r2 (sy_OSky_a0 ht)) dX10_forceOf_45 ?_
        refine lv_iload_n hx hb dX10_forceOf_48 rfl (lv_at hl 2 rfl) ?_
        obtain ⟨g12, h⟩ := sy_g_e h
        refine sy_iald fx X (sy_OEdge_a2 (sy_OSky_a0 ht)) g12 dX10_forceOf_49 ?_
        exact sy_iret fx X hr hlk h dX10_forceOf_50
      · have h := sy_f c11 h
        refine lv_iconst (v := 0) hx hb dX10_forceOf_37 (by decide) ?_
        refine lv_goto (tgt := 50) hx hb dX10_forceOf_38 (by decide) ?_
        exact sy_iret fx X hr hlk h dX10_forceOf_50
  · have h := sy_t c4 h
    refine lv_iconst (v := 0) hx hb dX10_forceOf_11 (by decide) ?_
    exact sy_iret fx X hr hlk h dX10_forceOf_12
def m_Sky_lowBehind_J117 (k : Nat) (y6 : Int32) (S : sy_St) : sy_R := if (0 : Int32) = 0 then (some (y6, S)) else (some (sy_max 2 y6, S))
def m_Sky_lowBehind_J84 (k : Nat) (y1 : Int32) (y2 : Int32) (y6 : Int32) (S : sy_St) : sy_R := if y2 = (-1) then (sy_c (m_Edge_isPerson 1 y1 S) fun r19 S18 => if r19 = 0 then (m_Sky_lowBehind_J117 k y6 S18) else (sy_g (sy_in y1 6) <| if (S18 3 y1.toNatClampNeg) = 1 then (if (1 : Int32) = 0 then (some (y6, S18)) else (some (sy_max 2 y6, S18))) else (m_Sky_lowBehind_J117 k y6 S18))) else (m_Sky_lowBehind_J117 k y6 S)
def m_Sky_lowBehind (k : Nat) (p0 : Int32) (p1 : Int32) (p2 : Int32) (S : sy_St) : sy_R := sy_c (m_Edge_weightAt 1 (S k 5) S) fun r2 S1 => sy_b (sy_max 0 (r2 - p2) : Int32) fun x4 => sy_c (m_Sky_forceOf k p0 S1) fun r6 S5 => sy_c (m_Sky_forceOf k p1 S5) fun r9 S8 => sy_b (r6 + r9 : Int32) fun x11 => sy_b (S8 k 6 : Int32) fun x12 => if x4 ≤ x11 then (if x11 ≤ x4 then (m_Sky_lowBehind_J84 k p0 p1 x12 S8) else (sy_b (sy_max 0 ((S8 k 6) - 1) : Int32) fun x15 => m_Sky_lowBehind_J84 k p0 p1 x15 S8)) else (sy_b (sy_min 99 (((S8 k 6) + x4) - x11) : Int32) fun x16 => m_Sky_lowBehind_J84 k p0 p1 x16 S8)
theorem cv_Sky_lowBehind : sy_cV RX10 yX10_lowBehind cX10_lowBehind 8 (some .int) 3 := ⟨wm_504, wm_505, wm_17, wm_506, by decide +kernel⟩
set_option maxRecDepth 100000 in
set_option maxHeartbeats 40000000 in
theorem c_Sky_lowBehind (l : Launch) {E : sy_ET} {k : Nat} (ht : sy_OSky E k) {p0 : Int32} {p1 : Int32} {p2 : Int32} {S S' : sy_St} {r : Int32} (h : m_Sky_lowBehind k p0 p1 p2 S = some (r, S')) : sy_MI l yX10_lowBehind cX10_lowBehind 8 (some .int) 2 54 [.ref (sy_ad E k), .int p0, .int p1, .int p2] E S r S' := by
  refine sy_MI_of RX10 pn_10 rfl (Nat.le_of_ble_eq_true rfl) (fun p e s m args below meth c A ls fx hr hlk hA X hl => ?_)
  have hx := fx.1
  have hb := fx.2.1
  have hown := fx.2.2.2.1
  have hts := fx.2.2.2.2
  have hl : lv_has ls 8 [(0, .ref (sy_ad E k)), (1, .int p0), (2, .int p1), (3, .int p2)] := hl
  have J_117 : ∀ (y6 : Int32) (S : sy_St) (H : Heap) (locs : List Loc) (ls : Array Slot), sy_Wd E A s S H locs → lv_has ls 8 [(6, .int y6)] → m_Sky_lowBehind_J117 k y6 S = some (r, S') → W p l e (sy_rm 2 54) s m args below meth c H locs 0 0 (MQ below (sy_Qi E A r S') args s 0 0 A) (F0 m 117 ls []) := by
    intro y6 S H locs ls X hl h
    unfold m_Sky_lowBehind_J117 at h
    refine lv_iconst (v := 0) hx hb dX10_lowBehind_117 (by decide) ?_
    refine lv_istore (lv' := [(7, .int 0), (6, .int y6)]) hx hb dX10_lowBehind_118 hl (by decide) rfl (fun ls hl => ?_)
    refine lv_iload hx hb dX10_lowBehind_120 (lv_at hl 0 rfl) ?_
    refine lv_if_eq (tgt := 134) hx hb dX10_lowBehind_122 (by decide) (fun c25 => ?_) (fun c25 => ?_)
    · have h := sy_t c25 h
      refine lv_iload hx hb dX10_lowBehind_134 (lv_at hl 1 rfl) ?_
      exact sy_iret fx X hr hlk h dX10_lowBehind_136
    · have h := sy_f c25 h
      refine lv_iconst (v := 2) hx hb dX10_lowBehind_125 (by decide) ?_
      refine lv_iload hx hb dX10_lowBehind_126 (lv_at hl 1 rfl) ?_
      refine va_mmax (rest := []) hx hb (fx.2.2.1.trans hl.1.symm) hown (hts _ wm_412) (hts _ wm_413) (hts _ wm_414) (hts _ wm_415) (Nat.le_of_ble_eq_true rfl) (Nat.le_of_ble_eq_true rfl) (Nat.le_refl _) (Nat.le_refl _) dX10_lowBehind_128 ?_
      refine lv_goto (tgt := 136) hx hb dX10_lowBehind_131 (by decide) ?_
      exact sy_iret fx X hr hlk h dX10_lowBehind_136
  have J_84 : ∀ (y1 y2 y6 : Int32) (S : sy_St) (H : Heap) (locs : List Loc) (ls : Array Slot), sy_Wd E A s S H locs → lv_has ls 8 [(0, .ref (sy_ad E k)), (1, .int y1), (2, .int y2), (6, .int y6)] → m_Sky_lowBehind_J84 k y1 y2 y6 S = some (r, S') → W p l e (sy_rm 2 54) s m args below meth c H locs 0 0 (MQ below (sy_Qi E A r S') args s 0 0 A) (F0 m 84 ls []) := by
    intro y1 y2 y6 S H locs ls X hl h
    unfold m_Sky_lowBehind_J84 at h
    refine lv_iload_n hx hb dX10_lowBehind_84 rfl (lv_at hl 2 rfl) ?_
    refine lv_iconst (v := (-1)) hx hb dX10_lowBehind_85 (by decide) ?_
    refine lv_icmp_ne (tgt := 117) hx hb dX10_lowBehind_86 (by decide) (fun c17 => ?_) (fun c17 => ?_)
    · have h := sy_f c17 h
      exact J_117 y6 S _ _ _ X (lv_sub hl [3] rfl) h
    · have h := sy_t c17 h
      refine lv_aload_n hx hb dX10_lowBehind_89 rfl (lv_at hl 0 rfl) ?_
      refine sy_q9 fx X (sy_OSky_o ht) 0 (by decide) wm_90 (fun _ h9 => h9) rfl (sy_OSky_r0 ht) dX10_lowBehind_90 ?_
      refine lv_iload_n hx hb dX10_lowBehind_93 rfl (lv_at hl 1 rfl) ?_
      obtain ⟨r19, S18, hc20, h⟩ := sy_c_e h
      refine sy_vi (rest := []) fx hA X hl.1 (sy_OEdge_o (sy_OSky_a0 ht)) (sy_en3 (sy_OEdge_o (sy_OSky_a0 ht)).2) rfl (c_Edge_isPerson l (sy_OSky_a0 ht) hc20) cv_Edge_isPerson wm_416 ⟨Nat.le_of_ble_eq_true rfl, Nat.le_of_ble_eq_true rfl, Nat.le_refl _, Nat.le_refl _⟩ rfl rfl (Nat.le_of_ble_eq_true rfl) dX10_lowBehind_94 (fun H locs X => ?_)
      refine lv_if_eq (tgt := 117) hx hb dX10_lowBehind_97 (by decide) (fun c21 => ?_) (fun c21 => ?_)
      · have h := sy_t c21 h
        exact J_117 y6 S18 _ _ _ X (lv_sub hl [3] rfl) h
      · have h := sy_f c21 h
        refine lv_aload_n hx hb dX10_lowBehind_100 rfl (lv_at hl 0 rfl) ?_
        refine sy_q9 fx X (sy_OSky_o ht) 0 (by decide) wm_90 (fun _ h9 => h9) rfl (sy_OSky_r0 ht) dX10_lowBehind_101 ?_
        refine sy_q3 fx X (sy_OEdge_o (sy_OSky_a0 ht)) 1 (by decide) wm_410 (fun _ h9 => h9) rfl (sy_OEdge_r1 (sy_OSky_a0 ht)) dX10_lowBehind_104 ?_
        refine lv_iload_n hx hb dX10_lowBehind_107 rfl (lv_at hl 1 rfl) ?_
        obtain ⟨g22, h⟩ := sy_g_e h
        refine sy_iald fx X (sy_OEdge_a1 (sy_OSky_a0 ht)) g22 dX10_lowBehind_108 ?_
        refine lv_iconst (v := 1) hx hb dX10_lowBehind_109 (by decide) ?_
        refine lv_icmp_ne (tgt := 117) hx hb dX10_lowBehind_110 (by decide) (fun c23 => ?_) (fun c23 => ?_)
        · have h := sy_f c23 h
          exact J_117 y6 S18 _ _ _ X (lv_sub hl [3] rfl) h
        · have h := sy_t c23 h
          refine lv_iconst (v := 1) hx hb dX10_lowBehind_113 (by decide) ?_
          refine lv_goto (tgt := 118) hx hb dX10_lowBehind_114 (by decide) ?_
          refine lv_istore (lv' := [(7, .int 1), (0, .ref (sy_ad E k)), (1, .int y1), (2, .int y2), (6, .int y6)]) hx hb dX10_lowBehind_118 hl (by decide) rfl (fun ls hl => ?_)
          refine lv_iload hx hb dX10_lowBehind_120 (lv_at hl 0 rfl) ?_
          refine lv_if_eq (tgt := 134) hx hb dX10_lowBehind_122 (by decide) (fun c24 => ?_) (fun c24 => ?_)
          · have h := sy_t c24 h
            refine lv_iload hx hb dX10_lowBehind_134 (lv_at hl 4 rfl) ?_
            exact sy_iret fx X hr hlk h dX10_lowBehind_136
          · have h := sy_f c24 h
            refine lv_iconst (v := 2) hx hb dX10_lowBehind_125 (by decide) ?_
            refine lv_iload hx hb dX10_lowBehind_126 (lv_at hl 4 rfl) ?_
            refine va_mmax (rest := []) hx hb (fx.2.2.1.trans hl.1.symm) hown (hts _ wm_412) (hts _ wm_413) (hts _ wm_414) (hts _ wm_415) (Nat.le_of_ble_eq_true rfl) (Nat.le_of_ble_eq_true rfl) (Nat.le_refl _) (Nat.le_refl _) dX10_lowBehind_128 ?_
            refine lv_goto (tgt := 136) hx hb dX10_lowBehind_131 (by decide) ?_
            exact sy_iret fx X hr hlk h dX10_lowBehind_136
  unfold m_Sky_lowBehind at h
  refine lv_iconst (v := 0) hx hb dX10_lowBehind_0 (by decide) ?_
  refine lv_aload_n hx hb dX10_lowBehind_1 rfl (lv_at hl 0 rfl) ?_
  refine sy_q9 fx X (sy_OSky_o ht) 0 (by decide) wm_90 (fun _ h9 => h9) rfl (sy_OSky_r0 ht) dX10_lowBehind_2 ?_
  refine lv_aload_n hx hb dX10_lowBehind_5 rfl (lv_at hl 0 rfl) ?_
  refine sy_g9 fx X (sy_OSky_o ht) 5 (by decide) wm_95 (fun _ h9 => h9) rfl dX10_lowBehind_6 ?_
  obtain ⟨r2, S1, hc3, h⟩ := sy_c_e h
  refine sy_vi (rest := [.int 0]) fx hA X hl.1 (sy_OEdge_o (sy_OSky_a0 ht)) (sy_en3 (sy_OEdge_o (sy_OSky_a0 ht)).2) rfl (c_Edge_weightAt l (sy_OSky_a0 ht) hc3) cv_Edge_weightAt wm_508 ⟨Nat.le_of_ble_eq_true rfl, Nat.le_of_ble_eq_true rfl, Nat.le_refl _, Nat.le_refl _⟩ rfl rfl (Nat.le_of_ble_eq_true rfl) dX10_lowBehind_9 (fun H locs X => ?_)
  refine lv_iload_n hx hb dX10_lowBehind_12 rfl (lv_at hl 3 rfl) ?_
  refine lv_isub hx hb dX10_lowBehind_13 ?_
  refine va_mmax (rest := []) hx hb (fx.2.2.1.trans hl.1.symm) hown (hts _ wm_412) (hts _ wm_413) (hts _ wm_414) (hts _ wm_415) (Nat.le_of_ble_eq_true rfl) (Nat.le_of_ble_eq_true rfl) (Nat.le_refl _) (Nat.le_refl _) dX10_lowBehind_14 ?_
  obtain ⟨x4, hx4, h⟩ := sy_b_e h
  refine sy_top hx4 ?_
  refine lv_istore (lv' := [(4, .int x4), (0, .ref (sy_ad E k)), (1, .int p0), (2, .int p1), (3, .int p2)]) hx hb dX10_lowBehind_17 hl (by decide) rfl (fun ls hl => ?_)
  refine lv_aload_n hx hb dX10_lowBehind_19 rfl (lv_at hl 1 rfl) ?_
  refine lv_iload_n hx hb dX10_lowBehind_20 rfl (lv_at hl 2 rfl) ?_
  obtain ⟨r6, S5, hc7, h⟩ := sy_c_e h
  refine sy_vi (rest := []) fx hA X hl.1 (sy_OSky_o ht) (sy_en9 (sy_OSky_o ht).2) rfl (c_Sky_forceOf l ht hc7) cv_Sky_forceOf wm_406 ⟨Nat.le_of_ble_eq_true rfl, Nat.le_of_ble_eq_true rfl, Nat.le_refl _, Nat.le_refl _⟩ rfl rfl (Nat.le_of_ble_eq_true rfl) dX10_lowBehind_21 (fun H locs X => ?_)
  refine lv_aload_n hx hb dX10_lowBehind_24 rfl (lv_at hl 1 rfl) ?_
  refine lv_iload_n hx hb dX10_lowBehind_25 rfl (lv_at hl 3 rfl) ?_
  obtain ⟨r9, S8, hc10, h⟩ := sy_c_e h
  refine sy_vi (rest := [.int r6]) fx hA X hl.1 (sy_OSky_o ht) (sy_en9 (sy_OSky_o ht).2) rfl (c_Sky_forceOf l ht hc10) cv_Sky_forceOf wm_406 ⟨Nat.le_of_ble_eq_true rfl, Nat.le_of_ble_eq_true rfl, Nat.le_refl _, Nat.le_refl _⟩ rfl rfl (Nat.le_of_ble_eq_true rfl) dX10_lowBehind_26 (fun H locs X => ?_)
  refine lv_iadd hx hb dX10_lowBehind_29 ?_
  obtain ⟨x11, hx11, h⟩ := sy_b_e h
  refine sy_top hx11 ?_
  refine lv_istore (lv' := [(5, .int x11), (4, .int x4), (0, .ref (sy_ad E k)), (1, .int p0), (2, .int p1), (3, .int p2)]) hx hb dX10_lowBehind_30 hl (by decide) rfl (fun ls hl => ?_)
  refine lv_aload_n hx hb dX10_lowBehind_32 rfl (lv_at hl 2 rfl) ?_
  refine sy_g9 fx X (sy_OSky_o ht) 6 (by decide) wm_96 (fun _ h9 => h9) rfl dX10_lowBehind_33 ?_
  obtain ⟨x12, hx12, h⟩ := sy_b_e h
  refine sy_top hx12 ?_
  refine lv_istore (lv' := [(6, .int x12), (5, .int x11), (4, .int x4), (0, .ref (sy_ad E k)), (1, .int p0), (2, .int p1), (3, .int p2)]) hx hb dX10_lowBehind_36 hl (by decide) rfl (fun ls hl => ?_)
  refine lv_iload hx hb dX10_lowBehind_38 (lv_at hl 1 rfl) ?_
  refine lv_iload hx hb dX10_lowBehind_40 (lv_at hl 2 rfl) ?_
  refine lv_icmp_ge (tgt := 65) hx hb dX10_lowBehind_42 (by decide) (fun c13 => ?_) (fun c13 => ?_)
  · have h := sy_t c13 h
    refine lv_iload hx hb dX10_lowBehind_65 (lv_at hl 1 rfl) ?_
    refine lv_iload hx hb dX10_lowBehind_67 (lv_at hl 2 rfl) ?_
    refine lv_icmp_le (tgt := 84) hx hb dX10_lowBehind_69 (by decide) (fun c14 => ?_) (fun c14 => ?_)
    · have h := sy_t c14 h
      exact J_84 p0 p1 x12 S8 _ _ _ X (lv_sub hl [3, 4, 5, 0] rfl) h
    · have h := sy_f c14 h
      refine lv_iconst (v := 0) hx hb dX10_lowBehind_72 (by decide) ?_
      refine lv_aload_n hx hb dX10_lowBehind_73 rfl (lv_at hl 3 rfl) ?_
      refine sy_g9 fx X (sy_OSky_o ht) 6 (by decide) wm_96 (fun _ h9 => h9) rfl dX10_lowBehind_74 ?_
      refine lv_iconst (v := 1) hx hb dX10_lowBehind_77 (by decide) ?_
      refine lv_isub hx hb dX10_lowBehind_78 ?_
      refine va_mmax (rest := []) hx hb (fx.2.2.1.trans hl.1.symm) hown (hts _ wm_412) (hts _ wm_413) (hts _ wm_414) (hts _ wm_415) (Nat.le_of_ble_eq_true rfl) (Nat.le_of_ble_eq_true rfl) (Nat.le_refl _) (Nat.le_refl _) dX10_lowBehind_79 ?_
      obtain ⟨x15, hx15, h⟩ := sy_b_e h
      refine sy_top hx15 ?_
      refine lv_istore (lv' := [(6, .int x15), (5, .int x11), (4, .int x4), (0, .ref (sy_ad E k)), (1, .int p0), (2, .int p1), (3, .int p2)]) hx hb dX10_lowBehind_82 hl (by decide) rfl (fun ls hl => ?_)
      exact J_84 p0 p1 x15 S8 _ _ _ X (lv_sub hl [3, 4, 5, 0] rfl) h
  · have h := sy_f c13 h
    refine lv_bipush (v := 99) hx hb dX10_lowBehind_45 (by decide) ?_
    refine lv_aload_n hx hb dX10_lowBehind_47 rfl (lv_at hl 3 rfl) ?_
    refine sy_g9 fx X (sy_OSky_o ht) 6 (by decide) wm_96 (fun _ h9 => h9) rfl dX10_lowBehind_48 ?_
    refine lv_iload hx hb dX10_lowBehind_51 (lv_at hl 2 rfl) ?_
    refine lv_iadd hx hb dX10_lowBehind_53 ?_
    refine lv_iload hx hb dX10_lowBehind_54 (lv_at hl 1 rfl) ?_
    refine lv_isub hx hb dX10_lowBehind_56 ?_
    refine va_mmin (rest := []) hx hb (fx.2.2.1.trans hl.1.symm) hown (hts _ wm_507) (hts _ wm_492) (hts _ wm_414) (hts _ wm_493) (Nat.le_of_ble_eq_true rfl) (Nat.le_of_ble_eq_true rfl) (Nat.le_refl _) (Nat.le_refl _) dX10_lowBehind_57 ?_
    obtain ⟨x16, hx16, h⟩ := sy_b_e h
    refine sy_top hx16 ?_
    refine lv_istore (lv' := [(6, .int x16), (5, .int x11), (4, .int x4), (0, .ref (sy_ad E k)), (1, .int p0), (2, .int p1), (3, .int p2)]) hx hb dX10_lowBehind_60 hl (by decide) rfl (fun ls hl => ?_)
    refine lv_goto (tgt := 84) hx hb dX10_lowBehind_62 (by decide) ?_
    exact J_84 p0 p1 x16 S8 _ _ _ X (lv_sub hl [3, 4, 5, 0] rfl) h
def m_Seen_fits (p0 : Int32) (p1 : Int32) (p2 : Int32) (S : sy_St) : sy_R := sy_g (sy_in p0 5) <| if p2 = (S 377 p0.toNatClampNeg) then (some (1, S)) else (some (0, S))
set_option maxRecDepth 100000 in
set_option maxHeartbeats 40000000 in
theorem c_Seen_fits (l : Launch) {E : sy_ET} (ht : sy_OSeen E) {p0 : Int32} {p1 : Int32} {p2 : Int32} {S S' : sy_St} {r : Int32} (h : m_Seen_fits p0 p1 p2 S = some (r, S')) : sy_MI l yX8_fits cX8_fits 4 (some .boolean) 0 0 [.ref (sy_ad E 374), .int p0, .int p1, .int p2] E S r S' := by
  refine sy_MI_of RX8 pn_8 rfl (Nat.le_of_ble_eq_true rfl) (fun p e s m args below meth c A ls fx hr hlk hA X hl => ?_)
  have hx := fx.1
  have hb := fx.2.1
  have hown := fx.2.2.2.1
  have hts := fx.2.2.2.2
  have hl : lv_has ls 4 [(0, .ref (sy_ad E 374)), (1, .int p0), (2, .int p1), (3, .int p2)] := hl
  unfold m_Seen_fits at h
  refine lv_iload_n hx hb dX8_fits_0 rfl (lv_at hl 3 rfl) ?_
  refine lv_aload_n hx hb dX8_fits_1 rfl (lv_at hl 0 rfl) ?_
  refine sy_q7 fx X (sy_OSeen_o ht) 5 (by decide) wm_134 (fun _ h9 => h9) rfl (sy_OSeen_r5 ht) dX8_fits_2 ?_
  refine lv_iload_n hx hb dX8_fits_5 rfl (lv_at hl 1 rfl) ?_
  obtain ⟨g1, h⟩ := sy_g_e h
  refine sy_iald fx X (sy_OSeen_a5 ht) g1 dX8_fits_6 ?_
  refine lv_icmp_ne (tgt := 14) hx hb dX8_fits_7 (by decide) (fun c2 => ?_) (fun c2 => ?_)
  · have h := sy_f c2 h
    refine lv_iconst (v := 0) hx hb dX8_fits_14 (by decide) ?_
    exact sy_zret fx X hr hlk (Or.inl rfl) h dX8_fits_15
  · have h := sy_t c2 h
    refine lv_iconst (v := 1) hx hb dX8_fits_10 (by decide) ?_
    refine lv_goto (tgt := 15) hx hb dX8_fits_11 (by decide) ?_
    exact sy_zret fx X hr hlk (Or.inr rfl) h dX8_fits_15
def m_Sky_bear (k : Nat) (p0 : Int32) (S : sy_St) : sy_R := sy_g (sy_in p0 6) <| sy_g (sy_in p0 6) <| sy_b (sy_up S (k + 1) p0.toNatClampNeg (sy_min 20 ((S (k + 1) p0.toNatClampNeg) + 1))) fun S3 => sy_g (sy_in p0 6) <| sy_g (sy_in p0 6) <| sy_b (sy_up S3 (k + 2) p0.toNatClampNeg ((S3 (k + 2) p0.toNatClampNeg) + 1)) fun S6 => sy_g (sy_in p0 6) <| sy_g (sy_in p0 6) <| sy_b (sy_up S6 (k + 3) p0.toNatClampNeg ((S6 (k + 3) p0.toNatClampNeg) + 1)) fun S9 => sy_g (sy_in p0 6) <| if (S9 3 p0.toNatClampNeg) = 4 then (if (S9 k 8) ≤ 0 then (some (0, S9)) else (sy_b (sy_up S9 k 8 ((S9 k 8) - 1)) fun S13 => some (0, S13))) else (some (0, S9))
theorem cv_Sky_bear : sy_cV RX10 yX10_bear cX10_bear 2 none 1 := ⟨wm_519, wm_520, wm_17, wm_521, by decide +kernel⟩
set_option maxRecDepth 100000 in
set_option maxHeartbeats 40000000 in
theorem c_Sky_bear (l : Launch) {E : sy_ET} {k : Nat} (ht : sy_OSky E k) {p0 : Int32} {S S' : sy_St} {r : Int32} (h : m_Sky_bear k p0 S = some (r, S')) : sy_MV l yX10_bear cX10_bear 2 1 30 [.ref (sy_ad E k), .int p0] E S S' := by
  refine sy_MV_of RX10 pn_10 rfl (Nat.le_of_ble_eq_true rfl) (fun p e s m args below meth c A ls fx hr hlk hA X hl => ?_)
  have hx := fx.1
  have hb := fx.2.1
  have hown := fx.2.2.2.1
  have hts := fx.2.2.2.2
  have hl : lv_has ls 2 [(0, .ref (sy_ad E k)), (1, .int p0)] := hl
  unfold m_Sky_bear at h
  refine lv_aload_n hx hb dX10_bear_0 rfl (lv_at hl 0 rfl) ?_
  refine sy_q9 fx X (sy_OSky_o ht) 1 (by decide) wm_86 (fun _ h9 => h9) rfl (sy_OSky_r1 ht) dX10_bear_1 ?_
  refine lv_iload_n hx hb dX10_bear_4 rfl (lv_at hl 1 rfl) ?_
  refine lv_bipush (v := 20) hx hb dX10_bear_5 (by decide) ?_
  refine lv_aload_n hx hb dX10_bear_7 rfl (lv_at hl 0 rfl) ?_
  refine sy_q9 fx X (sy_OSky_o ht) 1 (by decide) wm_86 (fun _ h9 => h9) rfl (sy_OSky_r1 ht) dX10_bear_8 ?_
  refine lv_iload_n hx hb dX10_bear_11 rfl (lv_at hl 1 rfl) ?_
  obtain ⟨g1, h⟩ := sy_g_e h
  refine sy_iald fx X (sy_OSky_a1 ht) g1 dX10_bear_12 ?_
  refine lv_iconst (v := 1) hx hb dX10_bear_13 (by decide) ?_
  refine lv_iadd hx hb dX10_bear_14 ?_
  refine va_mmin (rest := [.int p0, .ref (sy_ad E (k + 1))]) hx hb (fx.2.2.1.trans hl.1.symm) hown (hts _ wm_507) (hts _ wm_492) (hts _ wm_414) (hts _ wm_493) (Nat.le_of_ble_eq_true rfl) (Nat.le_of_ble_eq_true rfl) (Nat.le_refl _) (Nat.le_refl _) dX10_bear_15 ?_
  obtain ⟨g2, h⟩ := sy_g_e h
  obtain ⟨S3, hS3, h⟩ := sy_b_e h
  refine sy_iast fx X (sy_OSky_a1 ht) g2 hS3 dX10_bear_18 (fun H locs X => ?_)
  refine lv_aload_n hx hb dX10_bear_19 rfl (lv_at hl 0 rfl) ?_
  refine sy_q9 fx X (sy_OSky_o ht) 2 (by decide) wm_87 (fun _ h9 => h9) rfl (sy_OSky_r2 ht) dX10_bear_20 ?_
  refine lv_iload_n hx hb dX10_bear_23 rfl (lv_at hl 1 rfl) ?_
  refine lv_dup2_11 hx hb dX10_bear_24 rfl rfl ?_
  obtain ⟨g4, h⟩ := sy_g_e h
  refine sy_iald fx X (sy_OSky_a2 ht) g4 dX10_bear_25 ?_
  refine lv_iconst (v := 1) hx hb dX10_bear_26 (by decide) ?_
  refine lv_iadd hx hb dX10_bear_27 ?_
  obtain ⟨g5, h⟩ := sy_g_e h
  obtain ⟨S6, hS6, h⟩ := sy_b_e h
  refine sy_iast fx X (sy_OSky_a2 ht) g5 hS6 dX10_bear_28 (fun H locs X => ?_)
  refine lv_aload_n hx hb dX10_bear_29 rfl (lv_at hl 0 rfl) ?_
  refine sy_q9 fx X (sy_OSky_o ht) 3 (by decide) wm_88 (fun _ h9 => h9) rfl (sy_OSky_r3 ht) dX10_bear_30 ?_
  refine lv_iload_n hx hb dX10_bear_33 rfl (lv_at hl 1 rfl) ?_
  refine lv_dup2_11 hx hb dX10_bear_34 rfl rfl ?_
  obtain ⟨g7, h⟩ := sy_g_e h
  refine sy_iald fx X (sy_OSky_a3 ht) g7 dX10_bear_35 ?_
  refine lv_iconst (v := 1) hx hb dX10_bear_36 (by decide) ?_
  refine lv_iadd hx hb dX10_bear_37 ?_
  obtain ⟨g8, h⟩ := sy_g_e h
  obtain ⟨S9, hS9, h⟩ := sy_b_e h
  refine sy_iast fx X (sy_OSky_a3 ht) g8 hS9 dX10_bear_38 (fun H locs X => ?_)
  refine lv_aload_n hx hb dX10_bear_39 rfl (lv_at hl 0 rfl) ?_
  refine sy_q9 fx X (sy_OSky_o ht) 0 (by decide) wm_90 (fun _ h9 => h9) rfl (sy_OSky_r0 ht) dX10_bear_40 ?_
  refine sy_q3 fx X (sy_OEdge_o (sy_OSky_a0 ht)) 1 (by decide) wm_410 (fun _ h9 => h9) rfl (sy_OEdge_r1 (sy_OSky_a0 ht)) dX10_bear_43 ?_
  refine lv_iload_n hx hb dX10_bear_46 rfl (lv_at hl 1 rfl) ?_
  obtain ⟨g10, h⟩ := sy_g_e h
  refine sy_iald fx X (sy_OEdge_a1 (sy_OSky_a0 ht)) g10 dX10_bear_47 ?_
  refine lv_iconst (v := 4) hx hb dX10_bear_48 (by decide) ?_
  refine lv_icmp_ne (tgt := 69) hx hb dX10_bear_49 (by decide) (fun c11 => ?_) (fun c11 => ?_)
  · have h := sy_f c11 h
    exact sy_vret fx X hr hlk h dX10_bear_69
  · have h := sy_t c11 h
    refine lv_aload_n hx hb dX10_bear_52 rfl (lv_at hl 0 rfl) ?_
    refine sy_g9 fx X (sy_OSky_o ht) 8 (by decide) wm_99 (fun _ h9 => h9) rfl dX10_bear_53 ?_
    refine lv_if_le (tgt := 69) hx hb dX10_bear_56 (by decide) (fun c12 => ?_) (fun c12 => ?_)
    · have h := sy_t c12 h
      exact sy_vret fx X hr hlk h dX10_bear_69
    · have h := sy_f c12 h
      refine lv_aload_n hx hb dX10_bear_59 rfl (lv_at hl 0 rfl) ?_
      refine lv_dup hx hb dX10_bear_60 rfl ?_
      refine sy_g9 fx X (sy_OSky_o ht) 8 (by decide) wm_99 (fun _ h9 => h9) rfl dX10_bear_61 ?_
      refine lv_iconst (v := 1) hx hb dX10_bear_64 (by decide) ?_
      refine lv_isub hx hb dX10_bear_65 ?_
      obtain ⟨S13, hS13, h⟩ := sy_b_e h
      refine sy_p9 fx X (sy_OSky_o ht) 8 (by decide) wm_99 (fun _ h9 => h9) rfl (ty := .int) (by decide +kernel) rfl rfl hS13 sy_s9_8 dX10_bear_66 (fun H locs X => ?_)
      exact sy_vret fx X hr hlk h dX10_bear_69
