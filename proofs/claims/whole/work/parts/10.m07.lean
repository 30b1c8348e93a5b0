def m_Top_who (p0 : Int32) (S : sy_St) : sy_R := sy_c (m_Edge_isWhole 1 S) fun r2 S1 => if r2 = 0 then (some ((-1000000003), S1)) else (sy_c (m_Seen_find 45 S1) fun r6 S5 => if p0 = (-1) then (some (S5 374 8, S5)) else (sy_c (m_Seen_holderAt p0 S5) fun r10 S9 => some (r10, S9)))
theorem cv_Top_who : sy_cV RX11 yX11_who cX11_who 2 (some .int) 1 := ⟨wm_981, wm_982, wm_2, wm_983, by decide +kernel⟩
set_option maxRecDepth 100000 in
set_option maxHeartbeats 40000000 in
theorem c_Top_who (l : Launch) {E : sy_ET} (ht : sy_OTop E) {p0 : Int32} {S S' : sy_St} {r : Int32} (h : m_Top_who p0 S = some (r, S')) : sy_MI l yX11_who cX11_who 2 (some .int) 15 356 [.ref (sy_ad E 0), .int p0] E S r S' := by
  refine sy_MI_of RX11 pn_11 rfl (Nat.le_of_ble_eq_true rfl) (fun p e s m args below meth c A ls fx hr hlk hA X hl => ?_)
  have hx := fx.1
  have hb := fx.2.1
  have hown := fx.2.2.2.1
  have hts := fx.2.2.2.2
  have hl : lv_has ls 2 [(0, .ref (sy_ad E 0)), (1, .int p0)] := hl
  unfold m_Top_who at h
  refine lv_aload_n hx hb dX11_who_0 rfl (lv_at hl 0 rfl) ?_
  refine sy_q10 fx X (sy_OTop_o ht) 0 (by decide) wm_18 (fun _ h9 => h9) rfl (sy_OTop_r0 ht) dX11_who_1 ?_
  obtain ⟨r2, S1, hc3, h⟩ := sy_c_e h
  refine sy_vi (rest := []) fx hA X hl.1 (sy_OEdge_o (sy_OTop_a0 ht)) (sy_en3 (sy_OEdge_o (sy_OTop_a0 ht)).2) rfl (c_Edge_isWhole l (sy_OTop_a0 ht) hc3) cv_Edge_isWhole wm_479 ⟨Nat.le_of_ble_eq_true rfl, Nat.le_of_ble_eq_true rfl, Nat.le_refl _, Nat.le_refl _⟩ rfl rfl (Nat.le_of_ble_eq_true rfl) dX11_who_4 (fun H locs X => ?_)
  refine lv_if_ne (tgt := 13) hx hb dX11_who_7 (by decide) (fun c4 => ?_) (fun c4 => ?_)
  · have h := sy_f c4 h
    refine lv_aload_n hx hb dX11_who_13 rfl (lv_at hl 0 rfl) ?_
    refine sy_q10 fx X (sy_OTop_o ht) 9 (by decide) wm_41 (fun _ h9 => h9) rfl (sy_OTop_r9 ht) dX11_who_14 ?_
    refine lv_aload_n hx hb dX11_who_17 rfl (lv_at hl 0 rfl) ?_
    refine sy_q10 fx X (sy_OTop_o ht) 2 (by decide) wm_23 (fun _ h9 => h9) rfl (sy_OTop_r2 ht) dX11_who_18 ?_
    obtain ⟨r6, S5, hc7, h⟩ := sy_c_e h
    refine sy_vv (rest := []) fx hA X hl.1 (sy_OSeen_o (sy_OTop_a9 ht)) (sy_en7 (sy_OSeen_o (sy_OTop_a9 ht)).2) rfl (c_Seen_find l (sy_OTop_a9 ht) (sy_OTop_a2 ht) hc7) cv_Seen_find wm_985 ⟨Nat.le_of_ble_eq_true rfl, Nat.le_of_ble_eq_true rfl, Nat.le_refl _, Nat.le_refl _⟩ rfl rfl (Nat.le_of_ble_eq_true rfl) dX11_who_21 (fun H locs X => ?_)
    refine lv_iload_n hx hb dX11_who_24 rfl (lv_at hl 1 rfl) ?_
    refine lv_iconst (v := (-1)) hx hb dX11_who_25 (by decide) ?_
    refine lv_icmp_ne (tgt := 39) hx hb dX11_who_26 (by decide) (fun c8 => ?_) (fun c8 => ?_)
    · have h := sy_f c8 h
      refine lv_aload_n hx hb dX11_who_39 rfl (lv_at hl 0 rfl) ?_
      refine sy_q10 fx X (sy_OTop_o ht) 9 (by decide) wm_41 (fun _ h9 => h9) rfl (sy_OTop_r9 ht) dX11_who_40 ?_
      refine lv_iload_n hx hb dX11_who_43 rfl (lv_at hl 1 rfl) ?_
      obtain ⟨r10, S9, hc11, h⟩ := sy_c_e h
      refine sy_vi (rest := []) fx hA X hl.1 (sy_OSeen_o (sy_OTop_a9 ht)) (sy_en7 (sy_OSeen_o (sy_OTop_a9 ht)).2) rfl (c_Seen_holderAt l (sy_OTop_a9 ht) hc11) cv_Seen_holderAt wm_992 ⟨Nat.le_of_ble_eq_true rfl, Nat.le_of_ble_eq_true rfl, Nat.le_refl _, Nat.le_refl _⟩ rfl rfl (Nat.le_of_ble_eq_true rfl) dX11_who_44 (fun H locs X => ?_)
      exact sy_iret fx X hr hlk h dX11_who_47
    · have h := sy_t c8 h
      refine lv_aload_n hx hb dX11_who_29 rfl (lv_at hl 0 rfl) ?_
      refine sy_q10 fx X (sy_OTop_o ht) 9 (by decide) wm_41 (fun _ h9 => h9) rfl (sy_OTop_r9 ht) dX11_who_30 ?_
      refine sy_g7 fx X (sy_OSeen_o (sy_OTop_a9 ht)) 8 (by decide) wm_984 (fun _ h9 => h9) rfl dX11_who_33 ?_
      refine lv_goto (tgt := 47) hx hb dX11_who_36 (by decide) ?_
      exact sy_iret fx X hr hlk h dX11_who_47
  · have h := sy_t c4 h
    refine lv_ldc (v := (-1000000003)) hx hb hown (hts _ wm_478) dX11_who_10 ?_
    exact sy_iret fx X hr hlk h dX11_who_12
def m_Top_word (p0 : Int32) (S : sy_St) : sy_R := sy_c (m_Top_isWord p0 S) fun r2 S1 => if r2 = 0 then (some ((-1000000002), S1)) else (sy_g (sy_in p0 3) <| some (S1 8 p0.toNatClampNeg, S1))
theorem cv_Top_word : sy_cV RX11 yX11_word cX11_word 2 (some .int) 1 := ⟨wm_463, wm_464, wm_2, wm_465, by decide +kernel⟩
set_option maxRecDepth 100000 in
set_option maxHeartbeats 40000000 in
theorem c_Top_word (l : Launch) {E : sy_ET} (ht : sy_OTop E) {p0 : Int32} {S S' : sy_St} {r : Int32} (h : m_Top_word p0 S = some (r, S')) : sy_MI l yX11_word cX11_word 2 (some .int) 1 20 [.ref (sy_ad E 0), .int p0] E S r S' := by
  refine sy_MI_of RX11 pn_11 rfl (Nat.le_of_ble_eq_true rfl) (fun p e s m args below meth c A ls fx hr hlk hA X hl => ?_)
  have hx := fx.1
  have hb := fx.2.1
  have hown := fx.2.2.2.1
  have hts := fx.2.2.2.2
  have hl : lv_has ls 2 [(0, .ref (sy_ad E 0)), (1, .int p0)] := hl
  unfold m_Top_word at h
  refine lv_iload_n hx hb dX11_word_0 rfl (lv_at hl 1 rfl) ?_
  obtain ⟨r2, S1, hc3, h⟩ := sy_c_e h
  refine sy_si (rest := []) fx hA X hl.1 (c_Top_isWord l hc3) cv_Top_isWord wm_467 ⟨Nat.le_of_ble_eq_true rfl, Nat.le_of_ble_eq_true rfl, Nat.le_refl _, Nat.le_refl _⟩ rfl rfl (Nat.le_of_ble_eq_true rfl) dX11_word_1 (fun H locs X => ?_)
  refine lv_if_eq (tgt := 19) hx hb dX11_word_4 (by decide) (fun c4 => ?_) (fun c4 => ?_)
  · have h := sy_t c4 h
    refine lv_ldc (v := (-1000000002)) hx hb hown (hts _ wm_196) dX11_word_19 ?_
    exact sy_iret fx X hr hlk h dX11_word_21
  · have h := sy_f c4 h
    refine lv_aload_n hx hb dX11_word_7 rfl (lv_at hl 0 rfl) ?_
    refine sy_q10 fx X (sy_OTop_o ht) 0 (by decide) wm_18 (fun _ h9 => h9) rfl (sy_OTop_r0 ht) dX11_word_8 ?_
    refine sy_q3 fx X (sy_OEdge_o (sy_OTop_a0 ht)) 6 (by decide) wm_466 (fun _ h9 => h9) rfl (sy_OEdge_r6 (sy_OTop_a0 ht)) dX11_word_11 ?_
    refine lv_iload_n hx hb dX11_word_14 rfl (lv_at hl 1 rfl) ?_
    obtain ⟨g5, h⟩ := sy_g_e h
    refine sy_iald fx X (sy_OEdge_a6 (sy_OTop_a0 ht)) g5 dX11_word_15 ?_
    refine lv_goto (tgt := 21) hx hb dX11_word_16 (by decide) ?_
    exact sy_iret fx X hr hlk h dX11_word_21
def m_Top_words (p0 : Int32) (p1 : Int32) (p2 : Int32) (p3 : Int32) (p4 : Int32) (S : sy_St) : sy_R := sy_c (m_Top_isNoGain p0 S) fun r2 S1 => if r2 = 0 then (sy_c (m_Top_isNoGain p1 S1) fun r6 S5 => if r6 = 0 then (sy_c (m_Top_isNoGain p2 S5) fun r10 S9 => if r10 = 0 then (sy_c (m_Top_isNoGain p3 S9) fun r14 S13 => if r14 = 0 then (if p4 < 0 then (some ((-1000000002), S13)) else (if p4 ≤ 3 then (sy_c (m_Game_solve p0 p1 p2 p3 S13) fun r20 S19 => if p4 = 0 then (some (S19 391 4, S19)) else if p4 = 1 then (some (S19 391 5, S19)) else if p4 = 2 then (some (S19 391 6, S19)) else (some (S19 391 7, S19))) else (some ((-1000000002), S13)))) else (some ((-1000000002), S13))) else (some ((-1000000002), S9))) else (some ((-1000000002), S5))) else (some ((-1000000002), S1))
theorem cv_Top_words : sy_cV RX11 yX11_words cX11_words 6 (some .int) 5 := ⟨wm_907, wm_908, wm_2, wm_909, by decide +kernel⟩
set_option maxRecDepth 100000 in
set_option maxHeartbeats 40000000 in
theorem c_Top_words (l : Launch) {E : sy_ET} (ht : sy_OTop E) {p0 : Int32} {p1 : Int32} {p2 : Int32} {p3 : Int32} {p4 : Int32} {S S' : sy_St} {r : Int32} (h : m_Top_words p0 p1 p2 p3 p4 S = some (r, S')) : sy_MI l yX11_words cX11_words 6 (some .int) 6 148 [.ref (sy_ad E 0), .int p0, .int p1, .int p2, .int p3, .int p4] E S r S' := by
  refine sy_MI_of RX11 pn_11 rfl (Nat.le_of_ble_eq_true rfl) (fun p e s m args below meth c A ls fx hr hlk hA X hl => ?_)
  have hx := fx.1
  have hb := fx.2.1
  have hown := fx.2.2.2.1
  have hts := fx.2.2.2.2
  have hl : lv_has ls 6 [(0, .ref (sy_ad E 0)), (1, .int p0), (2, .int p1), (3, .int p2), (4, .int p3), (5, .int p4)] := hl
  unfold m_Top_words at h
  refine lv_iload_n hx hb dX11_words_0 rfl (lv_at hl 1 rfl) ?_
  obtain ⟨r2, S1, hc3, h⟩ := sy_c_e h
  refine sy_si (rest := []) fx hA X hl.1 (c_Top_isNoGain l hc3) cv_Top_isNoGain wm_914 ⟨Nat.le_of_ble_eq_true rfl, Nat.le_of_ble_eq_true rfl, Nat.le_refl _, Nat.le_refl _⟩ rfl rfl (Nat.le_of_ble_eq_true rfl) dX11_words_1 (fun H locs X => ?_)
  refine lv_if_ne (tgt := 29) hx hb dX11_words_4 (by decide) (fun c4 => ?_) (fun c4 => ?_)
  · have h := sy_f c4 h
    refine lv_ldc (v := (-1000000002)) hx hb hown (hts _ wm_196) dX11_words_29 ?_
    exact sy_iret fx X hr hlk h dX11_words_31
  · have h := sy_t c4 h
    refine lv_iload_n hx hb dX11_words_7 rfl (lv_at hl 2 rfl) ?_
    obtain ⟨r6, S5, hc7, h⟩ := sy_c_e h
    refine sy_si (rest := []) fx hA X hl.1 (c_Top_isNoGain l hc7) cv_Top_isNoGain wm_914 ⟨Nat.le_of_ble_eq_true rfl, Nat.le_of_ble_eq_true rfl, Nat.le_refl _, Nat.le_refl _⟩ rfl rfl (Nat.le_of_ble_eq_true rfl) dX11_words_8 (fun H locs X => ?_)
    refine lv_if_ne (tgt := 29) hx hb dX11_words_11 (by decide) (fun c8 => ?_) (fun c8 => ?_)
    · have h := sy_f c8 h
      refine lv_ldc (v := (-1000000002)) hx hb hown (hts _ wm_196) dX11_words_29 ?_
      exact sy_iret fx X hr hlk h dX11_words_31
    · have h := sy_t c8 h
      refine lv_iload_n hx hb dX11_words_14 rfl (lv_at hl 3 rfl) ?_
      obtain ⟨r10, S9, hc11, h⟩ := sy_c_e h
      refine sy_si (rest := []) fx hA X hl.1 (c_Top_isNoGain l hc11) cv_Top_isNoGain wm_914 ⟨Nat.le_of_ble_eq_true rfl, Nat.le_of_ble_eq_true rfl, Nat.le_refl _, Nat.le_refl _⟩ rfl rfl (Nat.le_of_ble_eq_true rfl) dX11_words_15 (fun H locs X => ?_)
      refine lv_if_ne (tgt := 29) hx hb dX11_words_18 (by decide) (fun c12 => ?_) (fun c12 => ?_)
      · have h := sy_f c12 h
        refine lv_ldc (v := (-1000000002)) hx hb hown (hts _ wm_196) dX11_words_29 ?_
        exact sy_iret fx X hr hlk h dX11_words_31
      · have h := sy_t c12 h
        refine lv_iload hx hb dX11_words_21 (lv_at hl 4 rfl) ?_
        obtain ⟨r14, S13, hc15, h⟩ := sy_c_e h
        refine sy_si (rest := []) fx hA X hl.1 (c_Top_isNoGain l hc15) cv_Top_isNoGain wm_914 ⟨Nat.le_of_ble_eq_true rfl, Nat.le_of_ble_eq_true rfl, Nat.le_refl _, Nat.le_refl _⟩ rfl rfl (Nat.le_of_ble_eq_true rfl) dX11_words_23 (fun H locs X => ?_)
        refine lv_if_eq (tgt := 32) hx hb dX11_words_26 (by decide) (fun c16 => ?_) (fun c16 => ?_)
        · have h := sy_t c16 h
          refine lv_iload hx hb dX11_words_32 (lv_at hl 5 rfl) ?_
          refine lv_if_lt (tgt := 43) hx hb dX11_words_34 (by decide) (fun c17 => ?_) (fun c17 => ?_)
          · have h := sy_t c17 h
            refine lv_ldc (v := (-1000000002)) hx hb hown (hts _ wm_196) dX11_words_43 ?_
            exact sy_iret fx X hr hlk h dX11_words_45
          · have h := sy_f c17 h
            refine lv_iload hx hb dX11_words_37 (lv_at hl 5 rfl) ?_
            refine lv_iconst (v := 3) hx hb dX11_words_39 (by decide) ?_
            refine lv_icmp_le (tgt := 46) hx hb dX11_words_40 (by decide) (fun c18 => ?_) (fun c18 => ?_)
            · have h := sy_t c18 h
              refine lv_aload_n hx hb dX11_words_46 rfl (lv_at hl 0 rfl) ?_
              refine sy_q10 fx X (sy_OTop_o ht) 13 (by decide) wm_57 (fun _ h9 => h9) rfl (sy_OTop_r13 ht) dX11_words_47 ?_
              refine lv_iload_n hx hb dX11_words_50 rfl (lv_at hl 1 rfl) ?_
              refine lv_iload_n hx hb dX11_words_51 rfl (lv_at hl 2 rfl) ?_
              refine lv_iload_n hx hb dX11_words_52 rfl (lv_at hl 3 rfl) ?_
              refine lv_iload hx hb dX11_words_53 (lv_at hl 4 rfl) ?_
              obtain ⟨r20, S19, hc21, h⟩ := sy_c_e h
              refine sy_vv (rest := []) fx hA X hl.1 (sy_OGame_o (sy_OTop_a13 ht)) (sy_en4 (sy_OGame_o (sy_OTop_a13 ht)).2) rfl (c_Game_solve l (sy_OTop_a13 ht) hc21) cv_Game_solve wm_917 ⟨Nat.le_of_ble_eq_true rfl, Nat.le_of_ble_eq_true rfl, Nat.le_refl _, Nat.le_refl _⟩ rfl rfl (Nat.le_of_ble_eq_true rfl) dX11_words_55 (fun H locs X => ?_)
              refine lv_iload hx hb dX11_words_58 (lv_at hl 5 rfl) ?_
              rcases Decidable.em (p4 = 0) with c22 | c22
              · have h := sy_t c22 h
                refine sy_top c22.symm ?_
                refine lv_tableIn (off := 28) (tgt := 88) hx hb dX11_words_60 (by decide) (by decide) rfl (by decide) ?_
                refine lv_aload_n hx hb dX11_words_88 rfl (lv_at hl 0 rfl) ?_
                refine sy_q10 fx X (sy_OTop_o ht) 13 (by decide) wm_57 (fun _ h9 => h9) rfl (sy_OTop_r13 ht) dX11_words_89 ?_
                refine sy_g4 fx X (sy_OGame_o (sy_OTop_a13 ht)) 4 (by decide) wm_910 (fun _ h9 => h9) rfl dX11_words_92 ?_
                exact sy_iret fx X hr hlk h dX11_words_95
              · have h := sy_f c22 h
                rcases Decidable.em (p4 = 1) with c23 | c23
                · have h := sy_t c23 h
                  refine sy_top c23.symm ?_
                  refine lv_tableIn (off := 36) (tgt := 96) hx hb dX11_words_60 (by decide) (by decide) rfl (by decide) ?_
                  refine lv_aload_n hx hb dX11_words_96 rfl (lv_at hl 0 rfl) ?_
                  refine sy_q10 fx X (sy_OTop_o ht) 13 (by decide) wm_57 (fun _ h9 => h9) rfl (sy_OTop_r13 ht) dX11_words_97 ?_
                  refine sy_g4 fx X (sy_OGame_o (sy_OTop_a13 ht)) 5 (by decide) wm_911 (fun _ h9 => h9) rfl dX11_words_100 ?_
                  exact sy_iret fx X hr hlk h dX11_words_103
                · have h := sy_f c23 h
                  rcases Decidable.em (p4 = 2) with c24 | c24
                  · have h := sy_t c24 h
                    refine sy_top c24.symm ?_
                    refine lv_tableIn (off := 44) (tgt := 104) hx hb dX11_words_60 (by decide) (by decide) rfl (by decide) ?_
                    refine lv_aload_n hx hb dX11_words_104 rfl (lv_at hl 0 rfl) ?_
                    refine sy_q10 fx X (sy_OTop_o ht) 13 (by decide) wm_57 (fun _ h9 => h9) rfl (sy_OTop_r13 ht) dX11_words_105 ?_
                    refine sy_g4 fx X (sy_OGame_o (sy_OTop_a13 ht)) 6 (by decide) wm_912 (fun _ h9 => h9) rfl dX11_words_108 ?_
                    exact sy_iret fx X hr hlk h dX11_words_111
                  · have h := sy_f c24 h
                    refine lv_tableOut (tgt := 112) hx hb dX11_words_60 (by have ec22 := sy_ne_toInt c22 (v := 0) (n := 0) (by decide); have ec23 := sy_ne_toInt c23 (v := 1) (n := 1) (by decide); have ec24 := sy_ne_toInt c24 (v := 2) (n := 2) (by decide); omega) (by decide) ?_
                    refine lv_aload_n hx hb dX11_words_112 rfl (lv_at hl 0 rfl) ?_
                    refine sy_q10 fx X (sy_OTop_o ht) 13 (by decide) wm_57 (fun _ h9 => h9) rfl (sy_OTop_r13 ht) dX11_words_113 ?_
                    refine sy_g4 fx X (sy_OGame_o (sy_OTop_a13 ht)) 7 (by decide) wm_913 (fun _ h9 => h9) rfl dX11_words_116 ?_
                    exact sy_iret fx X hr hlk h dX11_words_119
            · have h := sy_f c18 h
              refine lv_ldc (v := (-1000000002)) hx hb hown (hts _ wm_196) dX11_words_43 ?_
              exact sy_iret fx X hr hlk h dX11_words_45
        · have h := sy_f c16 h
          refine lv_ldc (v := (-1000000002)) hx hb hown (hts _ wm_196) dX11_words_29 ?_
          exact sy_iret fx X hr hlk h dX11_words_31
def m_Top_write (p0 : Int32) (p1 : Int32) (p2 : Int32) (S : sy_St) : sy_R := sy_c (m_Edge_isPerson 1 p0 S) fun r2 S1 => if r2 = 0 then (some ((-1000000001), S1)) else (sy_c (m_Top_isWord p1 S1) fun r6 S5 => if r6 = 0 then (some ((-1000000002), S5)) else (if (S5 384 3) < 20 then (sy_c (m_Book_add p0 p1 p2 S5) fun r11 S10 => some (r11, S10)) else (some ((-1000000004), S5))))
theorem cv_Top_write : sy_cV RX11 yX11_write cX11_write 4 (some .int) 3 := ⟨wm_1016, wm_1017, wm_2, wm_1018, by decide +kernel⟩
set_option maxRecDepth 100000 in
set_option maxHeartbeats 40000000 in
theorem c_Top_write (l : Launch) {E : sy_ET} (ht : sy_OTop E) {p0 : Int32} {p1 : Int32} {p2 : Int32} {S S' : sy_St} {r : Int32} (h : m_Top_write p0 p1 p2 S = some (r, S')) : sy_MI l yX11_write cX11_write 4 (some .int) 1 23 [.ref (sy_ad E 0), .int p0, .int p1, .int p2] E S r S' := by
  refine sy_MI_of RX11 pn_11 rfl (Nat.le_of_ble_eq_true rfl) (fun p e s m args below meth c A ls fx hr hlk hA X hl => ?_)
  have hx := fx.1
  have hb := fx.2.1
  have hown := fx.2.2.2.1
  have hts := fx.2.2.2.2
  have hl : lv_has ls 4 [(0, .ref (sy_ad E 0)), (1, .int p0), (2, .int p1), (3, .int p2)] := hl
  unfold m_Top_write at h
  refine lv_aload_n hx hb dX11_write_0 rfl (lv_at hl 0 rfl) ?_
  refine sy_q10 fx X (sy_OTop_o ht) 0 (by decide) wm_18 (fun _ h9 => h9) rfl (sy_OTop_r0 ht) dX11_write_1 ?_
  refine lv_iload_n hx hb dX11_write_4 rfl (lv_at hl 1 rfl) ?_
  obtain ⟨r2, S1, hc3, h⟩ := sy_c_e h
  refine sy_vi (rest := []) fx hA X hl.1 (sy_OEdge_o (sy_OTop_a0 ht)) (sy_en3 (sy_OEdge_o (sy_OTop_a0 ht)).2) rfl (c_Edge_isPerson l (sy_OTop_a0 ht) hc3) cv_Edge_isPerson wm_451 ⟨Nat.le_of_ble_eq_true rfl, Nat.le_of_ble_eq_true rfl, Nat.le_refl _, Nat.le_refl _⟩ rfl rfl (Nat.le_of_ble_eq_true rfl) dX11_write_5 (fun H locs X => ?_)
  refine lv_if_ne (tgt := 14) hx hb dX11_write_8 (by decide) (fun c4 => ?_) (fun c4 => ?_)
  · have h := sy_f c4 h
    refine lv_iload_n hx hb dX11_write_14 rfl (lv_at hl 2 rfl) ?_
    obtain ⟨r6, S5, hc7, h⟩ := sy_c_e h
    refine sy_si (rest := []) fx hA X hl.1 (c_Top_isWord l hc7) cv_Top_isWord wm_467 ⟨Nat.le_of_ble_eq_true rfl, Nat.le_of_ble_eq_true rfl, Nat.le_refl _, Nat.le_refl _⟩ rfl rfl (Nat.le_of_ble_eq_true rfl) dX11_write_15 (fun H locs X => ?_)
    refine lv_if_ne (tgt := 24) hx hb dX11_write_18 (by decide) (fun c8 => ?_) (fun c8 => ?_)
    · have h := sy_f c8 h
      refine lv_aload_n hx hb dX11_write_24 rfl (lv_at hl 0 rfl) ?_
      refine sy_q10 fx X (sy_OTop_o ht) 11 (by decide) wm_49 (fun _ h9 => h9) rfl (sy_OTop_r11 ht) dX11_write_25 ?_
      refine sy_g0 fx X (sy_OBook_o (sy_OTop_a11 ht)) 3 (by decide) wm_396 (fun _ h9 => h9) rfl dX11_write_28 ?_
      refine lv_bipush (v := 20) hx hb dX11_write_31 (by decide) ?_
      refine lv_icmp_lt (tgt := 39) hx hb dX11_write_33 (by decide) (fun c9 => ?_) (fun c9 => ?_)
      · have h := sy_t c9 h
        refine lv_aload_n hx hb dX11_write_39 rfl (lv_at hl 0 rfl) ?_
        refine sy_q10 fx X (sy_OTop_o ht) 11 (by decide) wm_49 (fun _ h9 => h9) rfl (sy_OTop_r11 ht) dX11_write_40 ?_
        refine lv_iload_n hx hb dX11_write_43 rfl (lv_at hl 1 rfl) ?_
        refine lv_iload_n hx hb dX11_write_44 rfl (lv_at hl 2 rfl) ?_
        refine lv_iload_n hx hb dX11_write_45 rfl (lv_at hl 3 rfl) ?_
        obtain ⟨r11, S10, hc12, h⟩ := sy_c_e h
        refine sy_vi (rest := []) fx hA X hl.1 (sy_OBook_o (sy_OTop_a11 ht)) (sy_en0 (sy_OBook_o (sy_OTop_a11 ht)).2) rfl (c_Book_add l (sy_OTop_a11 ht) hc12) cv_Book_add wm_1019 ⟨Nat.le_of_ble_eq_true rfl, Nat.le_of_ble_eq_true rfl, Nat.le_refl _, Nat.le_refl _⟩ rfl rfl (Nat.le_of_ble_eq_true rfl) dX11_write_46 (fun H locs X => ?_)
        exact sy_iret fx X hr hlk h dX11_write_49
      · have h := sy_f c9 h
        refine lv_ldc (v := (-1000000004)) hx hb hown (hts _ wm_198) dX11_write_36 ?_
        exact sy_iret fx X hr hlk h dX11_write_38
    · have h := sy_t c8 h
      refine lv_ldc (v := (-1000000002)) hx hb hown (hts _ wm_196) dX11_write_21 ?_
      exact sy_iret fx X hr hlk h dX11_write_23
  · have h := sy_t c4 h
    refine lv_ldc (v := (-1000000001)) hx hb hown (hts _ wm_441) dX11_write_11 ?_
    exact sy_iret fx X hr hlk h dX11_write_13
def m_Model_in (p0 : Int32) (p1 : Int32) (p2 : Int32) (S : sy_St) : sy_R := if p0 < p1 then (some (0, S)) else (if p2 < p0 then (some (0, S)) else (some (1, S)))
theorem cv_Model_in : sy_cS RX12 yX12_in cX12_in 3 (some .boolean) 3 := ⟨wm_212, wm_5, wm_213, by decide +kernel⟩
set_option maxRecDepth 100000 in
set_option maxHeartbeats 40000000 in
theorem c_Model_in (l : Launch) {E : sy_ET} {p0 : Int32} {p1 : Int32} {p2 : Int32} {S S' : sy_St} {r : Int32} (h : m_Model_in p0 p1 p2 S = some (r, S')) : sy_MI l yX12_in cX12_in 3 (some .boolean) 0 0 [.int p0, .int p1, .int p2] E S r S' := by
  refine sy_MI_of RX12 pn_12 rfl (Nat.le_of_ble_eq_true rfl) (fun p e s m args below meth c A ls fx hr hlk hA X hl => ?_)
  have hx := fx.1
  have hb := fx.2.1
  have hown := fx.2.2.2.1
  have hts := fx.2.2.2.2
  have hl : lv_has ls 3 [(0, .int p0), (1, .int p1), (2, .int p2)] := hl
  unfold m_Model_in at h
  refine lv_iload_n hx hb dX12_in_0 rfl (lv_at hl 0 rfl) ?_
  refine lv_iload_n hx hb dX12_in_1 rfl (lv_at hl 1 rfl) ?_
  refine lv_icmp_lt (tgt := 14) hx hb dX12_in_2 (by decide) (fun c1 => ?_) (fun c1 => ?_)
  · have h := sy_t c1 h
    refine lv_iconst (v := 0) hx hb dX12_in_14 (by decide) ?_
    exact sy_zret fx X hr hlk (Or.inl rfl) h dX12_in_15
  · have h := sy_f c1 h
    refine lv_iload_n hx hb dX12_in_5 rfl (lv_at hl 0 rfl) ?_
    refine lv_iload_n hx hb dX12_in_6 rfl (lv_at hl 2 rfl) ?_
    refine lv_icmp_gt (tgt := 14) hx hb dX12_in_7 (by decide) (fun c2 => ?_) (fun c2 => ?_)
    · have h := sy_t c2 h
      refine lv_iconst (v := 0) hx hb dX12_in_14 (by decide) ?_
      exact sy_zret fx X hr hlk (Or.inl rfl) h dX12_in_15
    · have h := sy_f c2 h
      refine lv_iconst (v := 1) hx hb dX12_in_10 (by decide) ?_
      refine lv_goto (tgt := 15) hx hb dX12_in_11 (by decide) ?_
      exact sy_zret fx X hr hlk (Or.inr rfl) h dX12_in_15
def m_Model_areLevel (p0 : Int32) (p1 : Int32) (S : sy_St) : sy_R := sy_b ((5 * p0) + 2 : Int32) fun x1 => sy_g (sy_in x1 30) <| sy_b ((5 * p1) + 2 : Int32) fun x3 => sy_g (sy_in x3 30) <| sy_b ((S 398 x1.toNatClampNeg) - (S 398 x3.toNatClampNeg) : Int32) fun x5 => sy_c (m_Model_in x5 (-1) 1 S) fun r7 S6 => sy_g (r7 = 0 ∨ r7 = 1) <| some (r7, S6)
theorem cv_Model_areLevel : sy_cV RX12 yX12_areLevel cX12_areLevel 4 (some .boolean) 2 := ⟨wm_630, wm_631, wm_5, wm_632, by decide +kernel⟩
set_option maxRecDepth 100000 in
set_option maxHeartbeats 40000000 in
theorem c_Model_areLevel (l : Launch) {E : sy_ET} (ht : sy_OModel E) {p0 : Int32} {p1 : Int32} {S S' : sy_St} {r : Int32} (h : m_Model_areLevel p0 p1 S = some (r, S')) : sy_MI l yX12_areLevel cX12_areLevel 4 (some .boolean) 1 22 [.ref (sy_ad E 392), .int p0, .int p1] E S r S' := by
  refine sy_MI_of RX12 pn_12 rfl (Nat.le_of_ble_eq_true rfl) (fun p e s m args below meth c A ls fx hr hlk hA X hl => ?_)
  have hx := fx.1
  have hb := fx.2.1
  have hown := fx.2.2.2.1
  have hts := fx.2.2.2.2
  have hl : lv_has ls 4 [(0, .ref (sy_ad E 392)), (1, .int p0), (2, .int p1)] := hl
  unfold m_Model_areLevel at h
  refine lv_aload_n hx hb dX12_areLevel_0 rfl (lv_at hl 0 rfl) ?_
  refine sy_q11 fx X (sy_OModel_o ht) 20 (by decide) wm_172 (fun _ h9 => h9) rfl (sy_OModel_r20 ht) dX12_areLevel_1 ?_
  refine lv_iconst (v := 5) hx hb dX12_areLevel_4 (by decide) ?_
  refine lv_iload_n hx hb dX12_areLevel_5 rfl (lv_at hl 1 rfl) ?_
  refine lv_imul hx hb dX12_areLevel_6 ?_
  refine lv_iconst (v := 2) hx hb dX12_areLevel_7 (by decide) ?_
  refine lv_iadd hx hb dX12_areLevel_8 ?_
  obtain ⟨x1, hx1, h⟩ := sy_b_e h
  refine sy_top hx1 ?_
  obtain ⟨g2, h⟩ := sy_g_e h
  refine sy_iald fx X (sy_OModel_a20 ht) g2 dX12_areLevel_9 ?_
  refine lv_aload_n hx hb dX12_areLevel_10 rfl (lv_at hl 0 rfl) ?_
  refine sy_q11 fx X (sy_OModel_o ht) 20 (by decide) wm_172 (fun _ h9 => h9) rfl (sy_OModel_r20 ht) dX12_areLevel_11 ?_
  refine lv_iconst (v := 5) hx hb dX12_areLevel_14 (by decide) ?_
  refine lv_iload_n hx hb dX12_areLevel_15 rfl (lv_at hl 2 rfl) ?_
  refine lv_imul hx hb dX12_areLevel_16 ?_
  refine lv_iconst (v := 2) hx hb dX12_areLevel_17 (by decide) ?_
  refine lv_iadd hx hb dX12_areLevel_18 ?_
  obtain ⟨x3, hx3, h⟩ := sy_b_e h
  refine sy_top hx3 ?_
  obtain ⟨g4, h⟩ := sy_g_e h
  refine sy_iald fx X (sy_OModel_a20 ht) g4 dX12_areLevel_19 ?_
  refine lv_isub hx hb dX12_areLevel_20 ?_
  obtain ⟨x5, hx5, h⟩ := sy_b_e h
  refine sy_top hx5 ?_
  refine lv_istore_n (lv' := [(3, .int x5), (0, .ref (sy_ad E 392)), (1, .int p0), (2, .int p1)]) hx hb dX12_areLevel_21 rfl hl (by decide) rfl (fun ls hl => ?_)
  refine lv_iload_n hx hb dX12_areLevel_22 rfl (lv_at hl 0 rfl) ?_
  refine lv_iconst (v := (-1)) hx hb dX12_areLevel_23 (by decide) ?_
  refine lv_iconst (v := 1) hx hb dX12_areLevel_24 (by decide) ?_
  obtain ⟨r7, S6, hc8, h⟩ := sy_c_e h
  refine sy_si (rest := []) fx hA X hl.1 (c_Model_in l hc8) cv_Model_in wm_211 ⟨Nat.le_of_ble_eq_true rfl, Nat.le_of_ble_eq_true rfl, Nat.le_refl _, Nat.le_refl _⟩ rfl rfl (Nat.le_of_ble_eq_true rfl) dX12_areLevel_25 (fun H locs X => ?_)
  obtain ⟨g9, h⟩ := sy_g_e h
  exact sy_zret fx X hr hlk g9 h dX12_areLevel_28
def m_Model_begin_J53 (t0 : Int32) (t1 : Int32) (S : sy_St) : sy_R := sy_g (sy_in t0 31) <| sy_b (sy_up S 400 t0.toNatClampNeg t1) fun S12 => sy_b (sy_up S12 400 ((5 : Int32).toNatClampNeg) (-1)) fun S13 => sy_b (sy_up S13 403 ((0 : Int32).toNatClampNeg) (vp_nar .boolean 0)) fun S14 => sy_b (sy_up S14 403 ((1 : Int32).toNatClampNeg) (vp_nar .boolean 0)) fun S15 => sy_b (sy_up S15 392 26 0) fun S16 => sy_b (sy_up S16 392 28 0) fun S17 => sy_b (sy_up S17 392 30 0) fun S18 => some (0, S18)
def m_Model_begin_B2 (kk2 : Int32 → sy_St → sy_R) (y1 : Int32) (S : sy_St) : sy_R := if 31 ≤ y1 then (if (S 392 19) = 0 then (m_Model_begin_J53 4 (-1) S) else (m_Model_begin_J53 4 0 S)) else (if y1 = 6 then (sy_g (sy_in y1 31) <| sy_g (sy_in y1 31) <| sy_b (sy_up S 400 y1.toNatClampNeg (S 400 y1.toNatClampNeg)) fun S9 => sy_b (y1 + 1 : Int32) fun x10 => kk2 x10 S9) else (sy_g (sy_in y1 31) <| sy_b (sy_up S 400 y1.toNatClampNeg 0) fun S5 => sy_b (y1 + 1 : Int32) fun x6 => kk2 x6 S5))
def m_Model_begin (S : sy_St) : sy_R := sy_fix (fun _ _ => none) (m_Model_begin_B2) sy_F 0 S
theorem cv_Model_begin : sy_cV RX12 yX12_begin cX12_begin 2 none 0 := ⟨wm_185, wm_186, wm_5, wm_187, by decide +kernel⟩
set_option maxRecDepth 100000 in
set_option maxHeartbeats 40000000 in
theorem c_Model_begin (l : Launch) {E : sy_ET} (ht : sy_OModel E) {S S' : sy_St} {r : Int32} (h : m_Model_begin S = some (r, S')) : sy_MV l yX12_begin cX12_begin 2 0 0 [.ref (sy_ad E 392)] E S S' := by
  refine sy_MV_of RX12 pn_12 rfl (Nat.le_of_ble_eq_true rfl) (fun p e s m args below meth c A ls fx hr hlk hA X hl => ?_)
  have hx := fx.1
  have hb := fx.2.1
  have hown := fx.2.2.2.1
  have hts := fx.2.2.2.2
  have hl : lv_has ls 2 [(0, .ref (sy_ad E 392))] := hl
  have J_53 : ∀ (t0 t1 : Int32) (S : sy_St) (H : Heap) (locs : List Loc) (ls : Array Slot), sy_Wd E A s S H locs → lv_has ls 2 [(0, .ref (sy_ad E 392))] → m_Model_begin_J53 t0 t1 S = some (r, S') → W p l e (sy_rm 0 0) s m args below meth c H locs 0 0 (MQ below (sy_Qv E A S') args s 0 0 A) (F0 m 53 ls [.int t1, .int t0, .ref (sy_ad E 400)]) := by
    intro t0 t1 S H locs ls X hl h
    unfold m_Model_begin_J53 at h
    obtain ⟨g11, h⟩ := sy_g_e h
    obtain ⟨S12, hS12, h⟩ := sy_b_e h
    refine sy_iast fx X (sy_OModel_a22 ht) g11 hS12 dX12_begin_53 (fun H locs X => ?_)
    refine lv_aload_n hx hb dX12_begin_54 rfl (lv_at hl 0 rfl) ?_
    refine sy_q11 fx X (sy_OModel_o ht) 22 (by decide) wm_174 (fun _ h9 => h9) rfl (sy_OModel_r22 ht) dX12_begin_55 ?_
    refine lv_iconst (v := 5) hx hb dX12_begin_58 (by decide) ?_
    refine lv_iconst (v := (-1)) hx hb dX12_begin_59 (by decide) ?_
    obtain ⟨S13, hS13, h⟩ := sy_b_e h
    refine sy_iast fx X (sy_OModel_a22 ht) (by decide) hS13 dX12_begin_60 (fun H locs X => ?_)
    refine lv_aload_n hx hb dX12_begin_61 rfl (lv_at hl 0 rfl) ?_
    refine sy_q11 fx X (sy_OModel_o ht) 25 (by decide) wm_177 (fun _ h9 => h9) rfl (sy_OModel_r25 ht) dX12_begin_62 ?_
    refine lv_iconst (v := 0) hx hb dX12_begin_65 (by decide) ?_
    refine lv_iconst (v := 0) hx hb dX12_begin_66 (by decide) ?_
    obtain ⟨S14, hS14, h⟩ := sy_b_e h
    refine sy_zast fx X (sy_OModel_a25 ht) (by decide) hS14 dX12_begin_67 (fun H locs X => ?_)
    refine lv_aload_n hx hb dX12_begin_68 rfl (lv_at hl 0 rfl) ?_
    refine sy_q11 fx X (sy_OModel_o ht) 25 (by decide) wm_177 (fun _ h9 => h9) rfl (sy_OModel_r25 ht) dX12_begin_69 ?_
    refine lv_iconst (v := 1) hx hb dX12_begin_72 (by decide) ?_
    refine lv_iconst (v := 0) hx hb dX12_begin_73 (by decide) ?_
    obtain ⟨S15, hS15, h⟩ := sy_b_e h
    refine sy_zast fx X (sy_OModel_a25 ht) (by decide) hS15 dX12_begin_74 (fun H locs X => ?_)
    refine lv_aload_n hx hb dX12_begin_75 rfl (lv_at hl 0 rfl) ?_
    refine lv_iconst (v := 0) hx hb dX12_begin_76 (by decide) ?_
    obtain ⟨S16, hS16, h⟩ := sy_b_e h
    refine sy_p11 fx X (sy_OModel_o ht) 26 (by decide) wm_189 (fun _ h9 => h9) rfl (ty := .int) (by decide +kernel) rfl rfl hS16 sy_s11_26 dX12_begin_77 (fun H locs X => ?_)
    refine lv_aload_n hx hb dX12_begin_80 rfl (lv_at hl 0 rfl) ?_
    refine lv_iconst (v := 0) hx hb dX12_begin_81 (by decide) ?_
    obtain ⟨S17, hS17, h⟩ := sy_b_e h
    refine sy_p11 fx X (sy_OModel_o ht) 28 (by decide) wm_190 (fun _ h9 => h9) rfl (ty := .int) (by decide +kernel) rfl rfl hS17 sy_s11_28 dX12_begin_82 (fun H locs X => ?_)
    refine lv_aload_n hx hb dX12_begin_85 rfl (lv_at hl 0 rfl) ?_
    refine lv_iconst (v := 0) hx hb dX12_begin_86 (by decide) ?_
    obtain ⟨S18, hS18, h⟩ := sy_b_e h
    refine sy_p11 fx X (sy_OModel_o ht) 30 (by decide) wm_191 (fun _ h9 => h9) rfl (ty := .int) (by decide +kernel) rfl rfl hS18 sy_s11_30 dX12_begin_87 (fun H locs X => ?_)
    exact sy_vret fx X hr hlk h dX12_begin_90
  have L_2 : ∀ (n2 : Nat) (y1 : Int32) (S : sy_St) (H : Heap) (locs : List Loc) (ls : Array Slot), sy_Wd E A s S H locs → lv_has ls 2 [(0, .ref (sy_ad E 392)), (1, .int y1)] → sy_fix (fun _ _ => none) (m_Model_begin_B2) n2 y1 S = some (r, S') → W p l e (sy_rm 0 0) s m args below meth c H locs 0 0 (MQ below (sy_Qv E A S') args s 0 0 A) (F0 m 2 ls []) := by
    intro n2
    induction n2 with
    | zero => intro y1 S H locs ls X hl h; have h9 : (none : sy_R) = some (r, S') := h; cases h9
    | succ n2 ih2 =>
      intro y1 S H locs ls X hl h
      have h : m_Model_begin_B2 (sy_fix (fun _ _ => none) (m_Model_begin_B2) n2) y1 S = some (r, S') := h
      unfold m_Model_begin_B2 at h
      refine lv_iload_n hx hb dX12_begin_2 rfl (lv_at hl 1 rfl) ?_
      refine lv_bipush (v := 31) hx hb dX12_begin_3 (by decide) ?_
      refine lv_icmp_ge (tgt := 36) hx hb dX12_begin_5 (by decide) (fun c1 => ?_) (fun c1 => ?_)
      · have h := sy_t c1 h
        refine lv_aload_n hx hb dX12_begin_36 rfl (lv_at hl 0 rfl) ?_
        refine sy_q11 fx X (sy_OModel_o ht) 22 (by decide) wm_174 (fun _ h9 => h9) rfl (sy_OModel_r22 ht) dX12_begin_37 ?_
        refine lv_iconst (v := 4) hx hb dX12_begin_40 (by decide) ?_
        refine lv_aload_n hx hb dX12_begin_41 rfl (lv_at hl 0 rfl) ?_
        refine sy_g11 fx X (sy_OModel_o ht) 19 (by decide) wm_188 (fun _ h9 => h9) rfl dX12_begin_42 ?_
        refine lv_if_ne (tgt := 52) hx hb dX12_begin_45 (by decide) (fun c2 => ?_) (fun c2 => ?_)
        · have h := sy_f c2 h
          refine lv_iconst (v := 0) hx hb dX12_begin_52 (by decide) ?_
          exact J_53 4 0 S _ _ _ X (lv_sub hl [0] rfl) h
        · have h := sy_t c2 h
          refine lv_iconst (v := (-1)) hx hb dX12_begin_48 (by decide) ?_
          refine lv_goto (tgt := 53) hx hb dX12_begin_49 (by decide) ?_
          exact J_53 4 (-1) S _ _ _ X (lv_sub hl [0] rfl) h
      · have h := sy_f c1 h
        refine lv_aload_n hx hb dX12_begin_8 rfl (lv_at hl 0 rfl) ?_
        refine sy_q11 fx X (sy_OModel_o ht) 22 (by decide) wm_174 (fun _ h9 => h9) rfl (sy_OModel_r22 ht) dX12_begin_9 ?_
        refine lv_iload_n hx hb dX12_begin_12 rfl (lv_at hl 1 rfl) ?_
        refine lv_iload_n hx hb dX12_begin_13 rfl (lv_at hl 1 rfl) ?_
        refine lv_bipush (v := 6) hx hb dX12_begin_14 (by decide) ?_
        refine lv_icmp_ne (tgt := 28) hx hb dX12_begin_16 (by decide) (fun c3 => ?_) (fun c3 => ?_)
        · have h := sy_f c3 h
          refine lv_iconst (v := 0) hx hb dX12_begin_28 (by decide) ?_
          obtain ⟨g4, h⟩ := sy_g_e h
          obtain ⟨S5, hS5, h⟩ := sy_b_e h
          refine sy_iast fx X (sy_OModel_a22 ht) g4 hS5 dX12_begin_29 (fun H locs X => ?_)
          obtain ⟨x6, hx6, h⟩ := sy_b_e h
          refine lv_iinc (v := x6) (lv' := [(1, .int x6), (0, .ref (sy_ad E 392))]) hx hb dX12_begin_30 hl (k := 1) rfl (by rw [hx6]; rfl) (by decide) rfl (fun ls hl => ?_)
          refine lv_goto (tgt := 2) hx hb dX12_begin_33 (by decide) ?_
          exact ih2 x6 S5 _ _ _ X (lv_sub hl [1, 0] rfl) h
        · have h := sy_t c3 h
          refine lv_aload_n hx hb dX12_begin_19 rfl (lv_at hl 0 rfl) ?_
          refine sy_q11 fx X (sy_OModel_o ht) 22 (by decide) wm_174 (fun _ h9 => h9) rfl (sy_OModel_r22 ht) dX12_begin_20 ?_
          refine lv_iload_n hx hb dX12_begin_23 rfl (lv_at hl 1 rfl) ?_
          obtain ⟨g7, h⟩ := sy_g_e h
          refine sy_iald fx X (sy_OModel_a22 ht) g7 dX12_begin_24 ?_
          refine lv_goto (tgt := 29) hx hb dX12_begin_25 (by decide) ?_
          obtain ⟨g8, h⟩ := sy_g_e h
          obtain ⟨S9, hS9, h⟩ := sy_b_e h
          refine sy_iast fx X (sy_OModel_a22 ht) g8 hS9 dX12_begin_29 (fun H locs X => ?_)
          obtain ⟨x10, hx10, h⟩ := sy_b_e h
          refine lv_iinc (v := x10) (lv' := [(1, .int x10), (0, .ref (sy_ad E 392))]) hx hb dX12_begin_30 hl (k := 1) rfl (by rw [hx10]; rfl) (by decide) rfl (fun ls hl => ?_)
          refine lv_goto (tgt := 2) hx hb dX12_begin_33 (by decide) ?_
          exact ih2 x10 S9 _ _ _ X (lv_sub hl [1, 0] rfl) h
  unfold m_Model_begin at h
  refine lv_iconst (v := 0) hx hb dX12_begin_0 (by decide) ?_
  refine lv_istore_n (lv' := [(1, .int 0), (0, .ref (sy_ad E 392))]) hx hb dX12_begin_1 rfl hl (by decide) rfl (fun ls hl => ?_)
  exact L_2 sy_F 0 S _ _ _ X (lv_sub hl [1, 0] rfl) h
def m_Model_isOne (p0 : Int32) (S : sy_St) : sy_R := sy_c (m_Model_in p0 0 ((S 392 19) - 1) S) fun r2 S1 => sy_g (r2 = 0 ∨ r2 = 1) <| some (r2, S1)
theorem cv_Model_isOne : sy_cV RX12 yX12_isOne cX12_isOne 2 (some .boolean) 1 := ⟨wm_459, wm_460, wm_5, wm_461, by decide +kernel⟩
set_option maxRecDepth 100000 in
set_option maxHeartbeats 40000000 in
theorem c_Model_isOne (l : Launch) {E : sy_ET} (ht : sy_OModel E) {p0 : Int32} {S S' : sy_St} {r : Int32} (h : m_Model_isOne p0 S = some (r, S')) : sy_MI l yX12_isOne cX12_isOne 2 (some .boolean) 1 22 [.ref (sy_ad E 392), .int p0] E S r S' := by
  refine sy_MI_of RX12 pn_12 rfl (Nat.le_of_ble_eq_true rfl) (fun p e s m args below meth c A ls fx hr hlk hA X hl => ?_)
  have hx := fx.1
  have hb := fx.2.1
  have hown := fx.2.2.2.1
  have hts := fx.2.2.2.2
  have hl : lv_has ls 2 [(0, .ref (sy_ad E 392)), (1, .int p0)] := hl
  unfold m_Model_isOne at h
  refine lv_iload_n hx hb dX12_isOne_0 rfl (lv_at hl 1 rfl) ?_
  refine lv_iconst (v := 0) hx hb dX12_isOne_1 (by decide) ?_
  refine lv_aload_n hx hb dX12_isOne_2 rfl (lv_at hl 0 rfl) ?_
  refine sy_g11 fx X (sy_OModel_o ht) 19 (by decide) wm_188 (fun _ h9 => h9) rfl dX12_isOne_3 ?_
  refine lv_iconst (v := 1) hx hb dX12_isOne_6 (by decide) ?_
  refine lv_isub hx hb dX12_isOne_7 ?_
  obtain ⟨r2, S1, hc3, h⟩ := sy_c_e h
  refine sy_si (rest := []) fx hA X hl.1 (c_Model_in l hc3) cv_Model_in wm_211 ⟨Nat.le_of_ble_eq_true rfl, Nat.le_of_ble_eq_true rfl, Nat.le_refl _, Nat.le_refl _⟩ rfl rfl (Nat.le_of_ble_eq_true rfl) dX12_isOne_8 (fun H locs X => ?_)
  obtain ⟨g4, h⟩ := sy_g_e h
  exact sy_zret fx X hr hlk g4 h dX12_isOne_11
def m_Model_holds (a0 : Nat) (n0 : Nat) (p1 : Int32) (S : sy_St) : sy_R := sy_g (sy_in 4 n0) <| if p1 = (S a0 ((4 : Int32).toNatClampNeg)) then (some (1, S)) else (sy_g (sy_in 5 n0) <| if p1 = (S a0 ((5 : Int32).toNatClampNeg)) then (some (1, S)) else (some (0, S)))
theorem cv_Model_holds : sy_cS RX12 yX12_holds cX12_holds 2 (some .boolean) 2 := ⟨wm_571, wm_5, wm_572, by decide +kernel⟩
set_option maxRecDepth 100000 in
set_option maxHeartbeats 40000000 in
theorem c_Model_holds (l : Launch) {E : sy_ET} {a0 : Nat} {n0 : Nat} (h0 : sy_isI E a0 n0) {p1 : Int32} {S S' : sy_St} {r : Int32} (h : m_Model_holds a0 n0 p1 S = some (r, S')) : sy_MI l yX12_holds cX12_holds 2 (some .boolean) 0 0 [.ref (sy_ad E a0), .int p1] E S r S' := by
  refine sy_MI_of RX12 pn_12 rfl (Nat.le_of_ble_eq_true rfl) (fun p e s m args below meth c A ls fx hr hlk hA X hl => ?_)
  have hx := fx.1
  have hb := fx.2.1
  have hown := fx.2.2.2.1
  have hts := fx.2.2.2.2
  have hl : lv_has ls 2 [(0, .ref (sy_ad E a0)), (1, .int p1)] := hl
  unfold m_Model_holds at h
  refine lv_iload_n hx hb dX12_holds_0 rfl (lv_at hl 1 rfl) ?_
  refine lv_aload_n hx hb dX12_holds_1 rfl (lv_at hl 0 rfl) ?_
  refine lv_iconst (v := 4) hx hb dX12_holds_2 (by decide) ?_
  obtain ⟨g1, h⟩ := sy_g_e h
  refine sy_iald fx X h0 g1 dX12_holds_3 ?_
  refine lv_icmp_eq (tgt := 14) hx hb dX12_holds_4 (by decide) (fun c2 => ?_) (fun c2 => ?_)
  · have h := sy_t c2 h
    refine lv_iconst (v := 1) hx hb dX12_holds_14 (by decide) ?_
    refine lv_goto (tgt := 19) hx hb dX12_holds_15 (by decide) ?_
    exact sy_zret fx X hr hlk (Or.inr rfl) h dX12_holds_19
  · have h := sy_f c2 h
    refine lv_iload_n hx hb dX12_holds_7 rfl (lv_at hl 1 rfl) ?_
    refine lv_aload_n hx hb dX12_holds_8 rfl (lv_at hl 0 rfl) ?_
    refine lv_iconst (v := 5) hx hb dX12_holds_9 (by decide) ?_
    obtain ⟨g3, h⟩ := sy_g_e h
    refine sy_iald fx X h0 g3 dX12_holds_10 ?_
    refine lv_icmp_ne (tgt := 18) hx hb dX12_holds_11 (by decide) (fun c4 => ?_) (fun c4 => ?_)
    · have h := sy_f c4 h
      refine lv_iconst (v := 0) hx hb dX12_holds_18 (by decide) ?_
      exact sy_zret fx X hr hlk (Or.inl rfl) h dX12_holds_19
    · have h := sy_t c4 h
      refine lv_iconst (v := 1) hx hb dX12_holds_14 (by decide) ?_
      refine lv_goto (tgt := 19) hx hb dX12_holds_15 (by decide) ?_
      exact sy_zret fx X hr hlk (Or.inr rfl) h dX12_holds_19
def m_Model_has (p0 : Int32) (p1 : Int32) (S : sy_St) : sy_R := if ((p0 >>> (p1 &&& 31)) &&& 1) = 1 then (some (1, S)) else (some (0, S))
theorem cv_Model_has : sy_cS RX12 yX12_has cX12_has 2 (some .boolean) 2 := ⟨wm_582, wm_5, wm_583, by decide +kernel⟩
set_option maxRecDepth 100000 in
set_option maxHeartbeats 40000000 in
theorem c_Model_has (l : Launch) {E : sy_ET} {p0 : Int32} {p1 : Int32} {S S' : sy_St} {r : Int32} (h : m_Model_has p0 p1 S = some (r, S')) : sy_MI l yX12_has cX12_has 2 (some .boolean) 0 0 [.int p0, .int p1] E S r S' := by
  refine sy_MI_of RX12 pn_12 rfl (Nat.le_of_ble_eq_true rfl) (fun p e s m args below meth c A ls fx hr hlk hA X hl => ?_)
  have hx := fx.1
  have hb := fx.2.1
  have hown := fx.2.2.2.1
  have hts := fx.2.2.2.2
  have hl : lv_has ls 2 [(0, .int p0), (1, .int p1)] := hl
  unfold m_Model_has at h
  refine lv_iload_n hx hb dX12_has_0 rfl (lv_at hl 0 rfl) ?_
  refine lv_iload_n hx hb dX12_has_1 rfl (lv_at hl 1 rfl) ?_
  refine lv_ishr hx hb dX12_has_2 ?_
  refine lv_iconst (v := 1) hx hb dX12_has_3 (by decide) ?_
  refine lv_iand hx hb dX12_has_4 ?_
  refine lv_iconst (v := 1) hx hb dX12_has_5 (by decide) ?_
  refine lv_icmp_ne (tgt := 13) hx hb dX12_has_6 (by decide) (fun c1 => ?_) (fun c1 => ?_)
  · have h := sy_f c1 h
    refine lv_iconst (v := 0) hx hb dX12_has_13 (by decide) ?_
    exact sy_zret fx X hr hlk (Or.inl rfl) h dX12_has_14
  · have h := sy_t c1 h
    refine lv_iconst (v := 1) hx hb dX12_has_9 (by decide) ?_
    refine lv_goto (tgt := 14) hx hb dX12_has_10 (by decide) ?_
    exact sy_zret fx X hr hlk (Or.inr rfl) h dX12_has_14
def m_Model_falls (a0 : Nat) (n0 : Nat) (p1 : Int32) (p2 : Int32) (S : sy_St) : sy_R := sy_g (sy_in p2 3) <| sy_b ((5 * p1) + 3 : Int32) fun x2 => sy_g (sy_in x2 30) <| if (S 399 p2.toNatClampNeg) ≤ (S 398 x2.toNatClampNeg) then (some (0, S)) else (sy_b (25 + p1 : Int32) fun x5 => sy_g (sy_in x5 n0) <| sy_c (m_Model_has (S a0 x5.toNatClampNeg) p2 S) fun r8 S7 => if r8 = 0 then (some (1, S7)) else (some (0, S7)))
theorem cv_Model_falls : sy_cV RX12 yX12_falls cX12_falls 4 (some .boolean) 3 := ⟨wm_578, wm_579, wm_5, wm_580, by decide +kernel⟩
set_option maxRecDepth 100000 in
set_option maxHeartbeats 40000000 in
theorem c_Model_falls (l : Launch) {E : sy_ET} {a0 : Nat} {n0 : Nat} (ht : sy_OModel E) (h0 : sy_isI E a0 n0) {p1 : Int32} {p2 : Int32} {S S' : sy_St} {r : Int32} (h : m_Model_falls a0 n0 p1 p2 S = some (r, S')) : sy_MI l yX12_falls cX12_falls 4 (some .boolean) 1 21 [.ref (sy_ad E 392), .ref (sy_ad E a0), .int p1, .int p2] E S r S' := by
  refine sy_MI_of RX12 pn_12 rfl (Nat.le_of_ble_eq_true rfl) (fun p e s m args below meth c A ls fx hr hlk hA X hl => ?_)
  have hx := fx.1
  have hb := fx.2.1
  have hown := fx.2.2.2.1
  have hts := fx.2.2.2.2
  have hl : lv_has ls 4 [(0, .ref (sy_ad E 392)), (1, .ref (sy_ad E a0)), (2, .int p1), (3, .int p2)] := hl
  unfold m_Model_falls at h
  refine lv_aload_n hx hb dX12_falls_0 rfl (lv_at hl 0 rfl) ?_
  refine sy_q11 fx X (sy_OModel_o ht) 21 (by decide) wm_173 (fun _ h9 => h9) rfl (sy_OModel_r21 ht) dX12_falls_1 ?_
  refine lv_iload_n hx hb dX12_falls_4 rfl (lv_at hl 3 rfl) ?_
  obtain ⟨g1, h⟩ := sy_g_e h
  refine sy_iald fx X (sy_OModel_a21 ht) g1 dX12_falls_5 ?_
  refine lv_aload_n hx hb dX12_falls_6 rfl (lv_at hl 0 rfl) ?_
  refine sy_q11 fx X (sy_OModel_o ht) 20 (by decide) wm_172 (fun _ h9 => h9) rfl (sy_OModel_r20 ht) dX12_falls_7 ?_
  refine lv_iconst (v := 5) hx hb dX12_falls_10 (by decide) ?_
  refine lv_iload_n hx hb dX12_falls_11 rfl (lv_at hl 2 rfl) ?_
  refine lv_imul hx hb dX12_falls_12 ?_
  refine lv_iconst (v := 3) hx hb dX12_falls_13 (by decide) ?_
  refine lv_iadd hx hb dX12_falls_14 ?_
  obtain ⟨x2, hx2, h⟩ := sy_b_e h
  refine sy_top hx2 ?_
  obtain ⟨g3, h⟩ := sy_g_e h
  refine sy_iald fx X (sy_OModel_a20 ht) g3 dX12_falls_15 ?_
  refine lv_icmp_le (tgt := 36) hx hb dX12_falls_16 (by decide) (fun c4 => ?_) (fun c4 => ?_)
  · have h := sy_t c4 h
    refine lv_iconst (v := 0) hx hb dX12_falls_36 (by decide) ?_
    exact sy_zret fx X hr hlk (Or.inl rfl) h dX12_falls_37
  · have h := sy_f c4 h
    refine lv_aload_n hx hb dX12_falls_19 rfl (lv_at hl 1 rfl) ?_
    refine lv_bipush (v := 25) hx hb dX12_falls_20 (by decide) ?_
    refine lv_iload_n hx hb dX12_falls_22 rfl (lv_at hl 2 rfl) ?_
    refine lv_iadd hx hb dX12_falls_23 ?_
    obtain ⟨x5, hx5, h⟩ := sy_b_e h
    refine sy_top hx5 ?_
    obtain ⟨g6, h⟩ := sy_g_e h
    refine sy_iald fx X h0 g6 dX12_falls_24 ?_
    refine lv_iload_n hx hb dX12_falls_25 rfl (lv_at hl 3 rfl) ?_
    obtain ⟨r8, S7, hc9, h⟩ := sy_c_e h
    refine sy_si (rest := []) fx hA X hl.1 (c_Model_has l hc9) cv_Model_has wm_581 ⟨Nat.le_of_ble_eq_true rfl, Nat.le_of_ble_eq_true rfl, Nat.le_refl _, Nat.le_refl _⟩ rfl rfl (Nat.le_of_ble_eq_true rfl) dX12_falls_26 (fun H locs X => ?_)
    refine lv_if_ne (tgt := 36) hx hb dX12_falls_29 (by decide) (fun c10 => ?_) (fun c10 => ?_)
    · have h := sy_f c10 h
      refine lv_iconst (v := 0) hx hb dX12_falls_36 (by decide) ?_
      exact sy_zret fx X hr hlk (Or.inl rfl) h dX12_falls_37
    · have h := sy_t c10 h
      refine lv_iconst (v := 1) hx hb dX12_falls_32 (by decide) ?_
      refine lv_goto (tgt := 37) hx hb dX12_falls_33 (by decide) ?_
      exact sy_zret fx X hr hlk (Or.inr rfl) h dX12_falls_37
def m_Model_fallsNow (p0 : Int32) (S : sy_St) : sy_R := sy_c (m_Model_falls 400 31 p0 0 S) fun r2 S1 => if r2 = 0 then (sy_c (m_Model_falls 400 31 p0 1 S1) fun r6 S5 => if r6 = 0 then (sy_c (m_Model_falls 400 31 p0 2 S5) fun r10 S9 => if r10 = 0 then (some (0, S9)) else (some (1, S9))) else (some (1, S5))) else (some (1, S1))
theorem cv_Model_fallsNow : sy_cV RX12 yX12_fallsNow cX12_fallsNow 2 (some .boolean) 1 := ⟨wm_845, wm_846, wm_5, wm_847, by decide +kernel⟩
set_option maxRecDepth 100000 in
set_option maxHeartbeats 40000000 in
theorem c_Model_fallsNow (l : Launch) {E : sy_ET} (ht : sy_OModel E) {p0 : Int32} {S S' : sy_St} {r : Int32} (h : m_Model_fallsNow p0 S = some (r, S')) : sy_MI l yX12_fallsNow cX12_fallsNow 2 (some .boolean) 2 44 [.ref (sy_ad E 392), .int p0] E S r S' := by
  refine sy_MI_of RX12 pn_12 rfl (Nat.le_of_ble_eq_true rfl) (fun p e s m args below meth c A ls fx hr hlk hA X hl => ?_)
  have hx := fx.1
  have hb := fx.2.1
  have hown := fx.2.2.2.1
  have hts := fx.2.2.2.2
  have hl : lv_has ls 2 [(0, .ref (sy_ad E 392)), (1, .int p0)] := hl
  unfold m_Model_fallsNow at h
  refine lv_aload_n hx hb dX12_fallsNow_0 rfl (lv_at hl 0 rfl) ?_
  refine lv_aload_n hx hb dX12_fallsNow_1 rfl (lv_at hl 0 rfl) ?_
  refine sy_q11 fx X (sy_OModel_o ht) 22 (by decide) wm_174 (fun _ h9 => h9) rfl (sy_OModel_r22 ht) dX12_fallsNow_2 ?_
  refine lv_iload_n hx hb dX12_fallsNow_5 rfl (lv_at hl 1 rfl) ?_
  refine lv_iconst (v := 0) hx hb dX12_fallsNow_6 (by decide) ?_
  obtain ⟨r2, S1, hc3, h⟩ := sy_c_e h
  refine sy_vi (rest := []) fx hA X hl.1 (sy_OModel_o ht) (sy_en11 (sy_OModel_o ht).2) rfl (c_Model_falls l ht (sy_OModel_a22 ht) hc3) cv_Model_falls wm_577 ⟨Nat.le_of_ble_eq_true rfl, Nat.le_of_ble_eq_true rfl, Nat.le_refl _, Nat.le_refl _⟩ rfl rfl (Nat.le_of_ble_eq_true rfl) dX12_fallsNow_7 (fun H locs X => ?_)
  refine lv_if_ne (tgt := 39) hx hb dX12_fallsNow_10 (by decide) (fun c4 => ?_) (fun c4 => ?_)
  · have h := sy_f c4 h
    refine lv_iconst (v := 1) hx hb dX12_fallsNow_39 (by decide) ?_
    refine lv_goto (tgt := 44) hx hb dX12_fallsNow_40 (by decide) ?_
    exact sy_zret fx X hr hlk (Or.inr rfl) h dX12_fallsNow_44
  · have h := sy_t c4 h
    refine lv_aload_n hx hb dX12_fallsNow_13 rfl (lv_at hl 0 rfl) ?_
    refine lv_aload_n hx hb dX12_fallsNow_14 rfl (lv_at hl 0 rfl) ?_
    refine sy_q11 fx X (sy_OModel_o ht) 22 (by decide) wm_174 (fun _ h9 => h9) rfl (sy_OModel_r22 ht) dX12_fallsNow_15 ?_
    refine lv_iload_n hx hb dX12_fallsNow_18 rfl (lv_at hl 1 rfl) ?_
    refine lv_iconst (v := 1) hx hb dX12_fallsNow_19 (by decide) ?_
    obtain ⟨r6, S5, hc7, h⟩ := sy_c_e h
    refine sy_vi (rest := []) fx hA X hl.1 (sy_OModel_o ht) (sy_en11 (sy_OModel_o ht).2) rfl (c_Model_falls l ht (sy_OModel_a22 ht) hc7) cv_Model_falls wm_577 ⟨Nat.le_of_ble_eq_true rfl, Nat.le_of_ble_eq_true rfl, Nat.le_refl _, Nat.le_refl _⟩ rfl rfl (Nat.le_of_ble_eq_true rfl) dX12_fallsNow_20 (fun H locs X => ?_)
    refine lv_if_ne (tgt := 39) hx hb dX12_fallsNow_23 (by decide) (fun c8 => ?_) (fun c8 => ?_)
    · have h := sy_f c8 h
      refine lv_iconst (v := 1) hx hb dX12_fallsNow_39 (by decide) ?_
      refine lv_goto (tgt := 44) hx hb dX12_fallsNow_40 (by decide) ?_
      exact sy_zret fx X hr hlk (Or.inr rfl) h dX12_fallsNow_44
    · have h := sy_t c8 h
      refine lv_aload_n hx hb dX12_fallsNow_26 rfl (lv_at hl 0 rfl) ?_
      refine lv_aload_n hx hb dX12_fallsNow_27 rfl (lv_at hl 0 rfl) ?_
      refine sy_q11 fx X (sy_OModel_o ht) 22 (by decide) wm_174 (fun _ h9 => h9) rfl (sy_OModel_r22 ht) dX12_fallsNow_28 ?_
      refine lv_iload_n hx hb dX12_fallsNow_31 rfl (lv_at hl 1 rfl) ?_
      refine lv_iconst (v := 2) hx hb dX12_fallsNow_32 (by decide) ?_
      obtain ⟨r10, S9, hc11, h⟩ := sy_c_e h
      refine sy_vi (rest := []) fx hA X hl.1 (sy_OModel_o ht) (sy_en11 (sy_OModel_o ht).2) rfl (c_Model_falls l ht (sy_OModel_a22 ht) hc11) cv_Model_falls wm_577 ⟨Nat.le_of_ble_eq_true rfl, Nat.le_of_ble_eq_true rfl, Nat.le_refl _, Nat.le_refl _⟩ rfl rfl (Nat.le_of_ble_eq_true rfl) dX12_fallsNow_33 (fun H locs X => ?_)
      refine lv_if_eq (tgt := 43) hx hb dX12_fallsNow_36 (by decide) (fun c12 => ?_) (fun c12 => ?_)
      · have h := sy_t c12 h
        refine lv_iconst (v := 0) hx hb dX12_fallsNow_43 (by decide) ?_
        exact sy_zret fx X hr hlk (Or.inl rfl) h dX12_fallsNow_44
      · have h := sy_f c12 h
        refine lv_iconst (v := 1) hx hb dX12_fallsNow_39 (by decide) ?_
        refine lv_goto (tgt := 44) hx hb dX12_fallsNow_40 (by decide) ?_
        exact sy_zret fx X hr hlk (Or.inr rfl) h dX12_fallsNow_44
def m_Model_fatherOf (p0 : Int32) (S : sy_St) : sy_R := sy_b ((5 * p0) + 4 : Int32) fun x1 => sy_g (sy_in x1 30) <| some (S 398 x1.toNatClampNeg, S)
theorem cv_Model_fatherOf : sy_cV RX12 yX12_fatherOf cX12_fatherOf 2 (some .int) 1 := ⟨wm_607, wm_608, wm_5, wm_609, by decide +kernel⟩
set_option maxRecDepth 100000 in
set_option maxHeartbeats 40000000 in
theorem c_Model_fatherOf (l : Launch) {E : sy_ET} (ht : sy_OModel E) {p0 : Int32} {S S' : sy_St} {r : Int32} (h : m_Model_fatherOf p0 S = some (r, S')) : sy_MI l yX12_fatherOf cX12_fatherOf 2 (some .int) 0 0 [.ref (sy_ad E 392), .int p0] E S r S' := by
  refine sy_MI_of RX12 pn_12 rfl (Nat.le_of_ble_eq_true rfl) (fun p e s m args below meth c A ls fx hr hlk hA X hl => ?_)
  have hx := fx.1
  have hb := fx.2.1
  have hown := fx.2.2.2.1
  have hts := fx.2.2.2.2
  have hl : lv_has ls 2 [(0, .ref (sy_ad E 392)), (1, .int p0)] := hl
  unfold m_Model_fatherOf at h
  refine lv_aload_n hx hb dX12_fatherOf_0 rfl (lv_at hl 0 rfl) ?_
  refine sy_q11 fx X (sy_OModel_o ht) 20 (by decide) wm_172 (fun _ h9 => h9) rfl (sy_OModel_r20 ht) dX12_fatherOf_1 ?_
  refine lv_iconst (v := 5) hx hb dX12_fatherOf_4 (by decide) ?_
  refine lv_iload_n hx hb dX12_fatherOf_5 rfl (lv_at hl 1 rfl) ?_
  refine lv_imul hx hb dX12_fatherOf_6 ?_
  refine lv_iconst (v := 4) hx hb dX12_fatherOf_7 (by decide) ?_
  refine lv_iadd hx hb dX12_fatherOf_8 ?_
  obtain ⟨x1, hx1, h⟩ := sy_b_e h
  refine sy_top hx1 ?_
  obtain ⟨g2, h⟩ := sy_g_e h
  refine sy_iald fx X (sy_OModel_a20 ht) g2 dX12_fatherOf_9 ?_
  exact sy_iret fx X hr hlk h dX12_fatherOf_10
def m_Model_isSonOfWhoHolds (p0 : Int32) (S : sy_St) : sy_R := sy_c (m_Model_fatherOf p0 S) fun r2 S1 => if r2 = (-1) then (some (0, S1)) else (sy_c (m_Model_fatherOf p0 S1) fun r6 S5 => sy_c (m_Model_holds 400 31 r6 S5) fun r9 S8 => if r9 = 0 then (some (0, S8)) else (sy_c (m_Model_holds 400 31 p0 S8) fun r13 S12 => if r13 = 0 then (some (1, S12)) else (some (0, S12))))
theorem cv_Model_isSonOfWhoHolds : sy_cV RX12 yX12_isSonOfWhoHolds cX12_isSonOfWhoHolds 2 (some .boolean) 1 := ⟨wm_603, wm_604, wm_5, wm_605, by decide +kernel⟩
set_option maxRecDepth 100000 in
set_option maxHeartbeats 40000000 in
theorem c_Model_isSonOfWhoHolds (l : Launch) {E : sy_ET} (ht : sy_OModel E) {p0 : Int32} {S S' : sy_St} {r : Int32} (h : m_Model_isSonOfWhoHolds p0 S = some (r, S')) : sy_MI l yX12_isSonOfWhoHolds cX12_isSonOfWhoHolds 2 (some .boolean) 1 21 [.ref (sy_ad E 392), .int p0] E S r S' := by
  refine sy_MI_of RX12 pn_12 rfl (Nat.le_of_ble_eq_true rfl) (fun p e s m args below meth c A ls fx hr hlk hA X hl => ?_)
  have hx := fx.1
  have hb := fx.2.1
  have hown := fx.2.2.2.1
  have hts := fx.2.2.2.2
  have hl : lv_has ls 2 [(0, .ref (sy_ad E 392)), (1, .int p0)] := hl
  unfold m_Model_isSonOfWhoHolds at h
  refine lv_aload_n hx hb dX12_isSonOfWhoHolds_0 rfl (lv_at hl 0 rfl) ?_
  refine lv_iload_n hx hb dX12_isSonOfWhoHolds_1 rfl (lv_at hl 1 rfl) ?_
  obtain ⟨r2, S1, hc3, h⟩ := sy_c_e h
  refine sy_vi (rest := []) fx hA X hl.1 (sy_OModel_o ht) (sy_en11 (sy_OModel_o ht).2) rfl (c_Model_fatherOf l ht hc3) cv_Model_fatherOf wm_606 ⟨Nat.le_of_ble_eq_true rfl, Nat.le_of_ble_eq_true rfl, Nat.le_refl _, Nat.le_refl _⟩ rfl rfl (Nat.le_of_ble_eq_true rfl) dX12_isSonOfWhoHolds_2 (fun H locs X => ?_)
  refine lv_iconst (v := (-1)) hx hb dX12_isSonOfWhoHolds_5 (by decide) ?_
  refine lv_icmp_eq (tgt := 39) hx hb dX12_isSonOfWhoHolds_6 (by decide) (fun c4 => ?_) (fun c4 => ?_)
  · have h := sy_t c4 h
    refine lv_iconst (v := 0) hx hb dX12_isSonOfWhoHolds_39 (by decide) ?_
    exact sy_zret fx X hr hlk (Or.inl rfl) h dX12_isSonOfWhoHolds_40
  · have h := sy_f c4 h
    refine lv_aload_n hx hb dX12_isSonOfWhoHolds_9 rfl (lv_at hl 0 rfl) ?_
    refine sy_q11 fx X (sy_OModel_o ht) 22 (by decide) wm_174 (fun _ h9 => h9) rfl (sy_OModel_r22 ht) dX12_isSonOfWhoHolds_10 ?_
    refine lv_aload_n hx hb dX12_isSonOfWhoHolds_13 rfl (lv_at hl 0 rfl) ?_
    refine lv_iload_n hx hb dX12_isSonOfWhoHolds_14 rfl (lv_at hl 1 rfl) ?_
    obtain ⟨r6, S5, hc7, h⟩ := sy_c_e h
    refine sy_vi (rest := [.ref (sy_ad E 400)]) fx hA X hl.1 (sy_OModel_o ht) (sy_en11 (sy_OModel_o ht).2) rfl (c_Model_fatherOf l ht hc7) cv_Model_fatherOf wm_606 ⟨Nat.le_of_ble_eq_true rfl, Nat.le_of_ble_eq_true rfl, Nat.le_refl _, Nat.le_refl _⟩ rfl rfl (Nat.le_of_ble_eq_true rfl) dX12_isSonOfWhoHolds_15 (fun H locs X => ?_)
    obtain ⟨r9, S8, hc10, h⟩ := sy_c_e h
    refine sy_si (rest := []) fx hA X hl.1 (c_Model_holds l (sy_OModel_a22 ht) hc10) cv_Model_holds wm_570 ⟨Nat.le_of_ble_eq_true rfl, Nat.le_of_ble_eq_true rfl, Nat.le_refl _, Nat.le_refl _⟩ rfl rfl (Nat.le_of_ble_eq_true rfl) dX12_isSonOfWhoHolds_18 (fun H locs X => ?_)
    refine lv_if_eq (tgt := 39) hx hb dX12_isSonOfWhoHolds_21 (by decide) (fun c11 => ?_) (fun c11 => ?_)
    · have h := sy_t c11 h
      refine lv_iconst (v := 0) hx hb dX12_isSonOfWhoHolds_39 (by decide) ?_
      exact sy_zret fx X hr hlk (Or.inl rfl) h dX12_isSonOfWhoHolds_40
    · have h := sy_f c11 h
      refine lv_aload_n hx hb dX12_isSonOfWhoHolds_24 rfl (lv_at hl 0 rfl) ?_
      refine sy_q11 fx X (sy_OModel_o ht) 22 (by decide) wm_174 (fun _ h9 => h9) rfl (sy_OModel_r22 ht) dX12_isSonOfWhoHolds_25 ?_
      refine lv_iload_n hx hb dX12_isSonOfWhoHolds_28 rfl (lv_at hl 1 rfl) ?_
      obtain ⟨r13, S12, hc14, h⟩ := sy_c_e h
      refine sy_si (rest := []) fx hA X hl.1 (c_Model_holds l (sy_OModel_a22 ht) hc14) cv_Model_holds wm_570 ⟨Nat.le_of_ble_eq_true rfl, Nat.le_of_ble_eq_true rfl, Nat.le_refl _, Nat.le_refl _⟩ rfl rfl (Nat.le_of_ble_eq_true rfl) dX12_isSonOfWhoHolds_29 (fun H locs X => ?_)
      refine lv_if_ne (tgt := 39) hx hb dX12_isSonOfWhoHolds_32 (by decide) (fun c15 => ?_) (fun c15 => ?_)
      · have h := sy_f c15 h
        refine lv_iconst (v := 0) hx hb dX12_isSonOfWhoHolds_39 (by decide) ?_
        exact sy_zret fx X hr hlk (Or.inl rfl) h dX12_isSonOfWhoHolds_40
      · have h := sy_t c15 h
        refine lv_iconst (v := 1) hx hb dX12_isSonOfWhoHolds_35 (by decide) ?_
        refine lv_goto (tgt := 40) hx hb dX12_isSonOfWhoHolds_36 (by decide) ?_
        exact sy_zret fx X hr hlk (Or.inr rfl) h dX12_isSonOfWhoHolds_40
def m_Model_isNext (p0 : Int32) (p1 : Int32) (S : sy_St) : sy_R := if p0 = (-1) then (sy_c (m_Model_holds 400 31 p1 S) fun r12 S11 => if r12 = 0 then (sy_c (m_Model_fallsNow p1 S11) fun r16 S15 => if r16 = 0 then (sy_c (m_Model_isSonOfWhoHolds p1 S15) fun r20 S19 => if r20 = 0 then (some (0, S19)) else (some (1, S19))) else (some (1, S15))) else (some (0, S11))) else (if p1 = p0 then (some (0, S)) else (sy_c (m_Model_fallsNow p1 S) fun r4 S3 => if r4 = 0 then (sy_c (m_Model_fatherOf p1 S3) fun r8 S7 => if r8 = p0 then (some (1, S7)) else (some (0, S7))) else (some (1, S3))))
theorem cv_Model_isNext : sy_cV RX12 yX12_isNext cX12_isNext 3 (some .boolean) 2 := ⟨wm_841, wm_842, wm_5, wm_843, by decide +kernel⟩
set_option maxRecDepth 100000 in
set_option maxHeartbeats 40000000 in
theorem c_Model_isNext (l : Launch) {E : sy_ET} (ht : sy_OModel E) {p0 : Int32} {p1 : Int32} {S S' : sy_St} {r : Int32} (h : m_Model_isNext p0 p1 S = some (r, S')) : sy_MI l yX12_isNext cX12_isNext 3 (some .boolean) 3 65 [.ref (sy_ad E 392), .int p0, .int p1] E S r S' := by
  refine sy_MI_of RX12 pn_12 rfl (Nat.le_of_ble_eq_true rfl) (fun p e s m args below meth c A ls fx hr hlk hA X hl => ?_)
  have hx := fx.1
  have hb := fx.2.1
  have hown := fx.2.2.2.1
  have hts := fx.2.2.2.2
  have hl : lv_has ls 3 [(0, .ref (sy_ad E 392)), (1, .int p0), (2, .int p1)] := hl
  unfold m_Model_isNext at h
  refine lv_iload_n hx hb dX12_isNext_0 rfl (lv_at hl 1 rfl) ?_
  refine lv_iconst (v := (-1)) hx hb dX12_isNext_1 (by decide) ?_
  refine lv_icmp_ne (tgt := 38) hx hb dX12_isNext_2 (by decide) (fun c1 => ?_) (fun c1 => ?_)
  · have h := sy_f c1 h
    refine lv_iload_n hx hb dX12_isNext_38 rfl (lv_at hl 2 rfl) ?_
    refine lv_iload_n hx hb dX12_isNext_39 rfl (lv_at hl 1 rfl) ?_
    refine lv_icmp_eq (tgt := 64) hx hb dX12_isNext_40 (by decide) (fun c2 => ?_) (fun c2 => ?_)
    · have h := sy_t c2 h
      refine lv_iconst (v := 0) hx hb dX12_isNext_64 (by decide) ?_
      exact sy_zret fx X hr hlk (Or.inl rfl) h dX12_isNext_65
    · have h := sy_f c2 h
      refine lv_aload_n hx hb dX12_isNext_43 rfl (lv_at hl 0 rfl) ?_
      refine lv_iload_n hx hb dX12_isNext_44 rfl (lv_at hl 2 rfl) ?_
      obtain ⟨r4, S3, hc5, h⟩ := sy_c_e h
      refine sy_vi (rest := []) fx hA X hl.1 (sy_OModel_o ht) (sy_en11 (sy_OModel_o ht).2) rfl (c_Model_fallsNow l ht hc5) cv_Model_fallsNow wm_844 ⟨Nat.le_of_ble_eq_true rfl, Nat.le_of_ble_eq_true rfl, Nat.le_refl _, Nat.le_refl _⟩ rfl rfl (Nat.le_of_ble_eq_true rfl) dX12_isNext_45 (fun H locs X => ?_)
      refine lv_if_ne (tgt := 60) hx hb dX12_isNext_48 (by decide) (fun c6 => ?_) (fun c6 => ?_)
      · have h := sy_f c6 h
        refine lv_iconst (v := 1) hx hb dX12_isNext_60 (by decide) ?_
        refine lv_goto (tgt := 65) hx hb dX12_isNext_61 (by decide) ?_
        exact sy_zret fx X hr hlk (Or.inr rfl) h dX12_isNext_65
      · have h := sy_t c6 h
        refine lv_aload_n hx hb dX12_isNext_51 rfl (lv_at hl 0 rfl) ?_
        refine lv_iload_n hx hb dX12_isNext_52 rfl (lv_at hl 2 rfl) ?_
        obtain ⟨r8, S7, hc9, h⟩ := sy_c_e h
        refine sy_vi (rest := []) fx hA X hl.1 (sy_OModel_o ht) (sy_en11 (sy_OModel_o ht).2) rfl (c_Model_fatherOf l ht hc9) cv_Model_fatherOf wm_606 ⟨Nat.le_of_ble_eq_true rfl, Nat.le_of_ble_eq_true rfl, Nat.le_refl _, Nat.le_refl _⟩ rfl rfl (Nat.le_of_ble_eq_true rfl) dX12_isNext_53 (fun H locs X => ?_)
        refine lv_iload_n hx hb dX12_isNext_56 rfl (lv_at hl 1 rfl) ?_
        refine lv_icmp_ne (tgt := 64) hx hb dX12_isNext_57 (by decide) (fun c10 => ?_) (fun c10 => ?_)
        · have h := sy_f c10 h
          refine lv_iconst (v := 0) hx hb dX12_isNext_64 (by decide) ?_
          exact sy_zret fx X hr hlk (Or.inl rfl) h dX12_isNext_65
        · have h := sy_t c10 h
          refine lv_iconst (v := 1) hx hb dX12_isNext_60 (by decide) ?_
          refine lv_goto (tgt := 65) hx hb dX12_isNext_61 (by decide) ?_
          exact sy_zret fx X hr hlk (Or.inr rfl) h dX12_isNext_65
  · have h := sy_t c1 h
    refine lv_aload_n hx hb dX12_isNext_5 rfl (lv_at hl 0 rfl) ?_
    refine sy_q11 fx X (sy_OModel_o ht) 22 (by decide) wm_174 (fun _ h9 => h9) rfl (sy_OModel_r22 ht) dX12_isNext_6 ?_
    refine lv_iload_n hx hb dX12_isNext_9 rfl (lv_at hl 2 rfl) ?_
    obtain ⟨r12, S11, hc13, h⟩ := sy_c_e h
    refine sy_si (rest := []) fx hA X hl.1 (c_Model_holds l (sy_OModel_a22 ht) hc13) cv_Model_holds wm_570 ⟨Nat.le_of_ble_eq_true rfl, Nat.le_of_ble_eq_true rfl, Nat.le_refl _, Nat.le_refl _⟩ rfl rfl (Nat.le_of_ble_eq_true rfl) dX12_isNext_10 (fun H locs X => ?_)
    refine lv_if_ne (tgt := 36) hx hb dX12_isNext_13 (by decide) (fun c14 => ?_) (fun c14 => ?_)
    · have h := sy_f c14 h
      refine lv_iconst (v := 0) hx hb dX12_isNext_36 (by decide) ?_
      exact sy_zret fx X hr hlk (Or.inl rfl) h dX12_isNext_37
    · have h := sy_t c14 h
      refine lv_aload_n hx hb dX12_isNext_16 rfl (lv_at hl 0 rfl) ?_
      refine lv_iload_n hx hb dX12_isNext_17 rfl (lv_at hl 2 rfl) ?_
      obtain ⟨r16, S15, hc17, h⟩ := sy_c_e h
      refine sy_vi (rest := []) fx hA X hl.1 (sy_OModel_o ht) (sy_en11 (sy_OModel_o ht).2) rfl (c_Model_fallsNow l ht hc17) cv_Model_fallsNow wm_844 ⟨Nat.le_of_ble_eq_true rfl, Nat.le_of_ble_eq_true rfl, Nat.le_refl _, Nat.le_refl _⟩ rfl rfl (Nat.le_of_ble_eq_true rfl) dX12_isNext_18 (fun H locs X => ?_)
      refine lv_if_ne (tgt := 32) hx hb dX12_isNext_21 (by decide) (fun c18 => ?_) (fun c18 => ?_)
      · have h := sy_f c18 h
        refine lv_iconst (v := 1) hx hb dX12_isNext_32 (by decide) ?_
        refine lv_goto (tgt := 37) hx hb dX12_isNext_33 (by decide) ?_
        exact sy_zret fx X hr hlk (Or.inr rfl) h dX12_isNext_37
      · have h := sy_t c18 h
        refine lv_aload_n hx hb dX12_isNext_24 rfl (lv_at hl 0 rfl) ?_
        refine lv_iload_n hx hb dX12_isNext_25 rfl (lv_at hl 2 rfl) ?_
        obtain ⟨r20, S19, hc21, h⟩ := sy_c_e h
        refine sy_vi (rest := []) fx hA X hl.1 (sy_OModel_o ht) (sy_en11 (sy_OModel_o ht).2) rfl (c_Model_isSonOfWhoHolds l ht hc21) cv_Model_isSonOfWhoHolds wm_602 ⟨Nat.le_of_ble_eq_true rfl, Nat.le_of_ble_eq_true rfl, Nat.le_refl _, Nat.le_refl _⟩ rfl rfl (Nat.le_of_ble_eq_true rfl) dX12_isNext_26 (fun H locs X => ?_)
        refine lv_if_eq (tgt := 36) hx hb dX12_isNext_29 (by decide) (fun c22 => ?_) (fun c22 => ?_)
        · have h := sy_t c22 h
          refine lv_iconst (v := 0) hx hb dX12_isNext_36 (by decide) ?_
          exact sy_zret fx X hr hlk (Or.inl rfl) h dX12_isNext_37
        · have h := sy_f c22 h
          refine lv_iconst (v := 1) hx hb dX12_isNext_32 (by decide) ?_
          refine lv_goto (tgt := 37) hx hb dX12_isNext_33 (by decide) ?_
          exact sy_zret fx X hr hlk (Or.inr rfl) h dX12_isNext_37
def m_Model_layFar_B56 (kk35 : Int32 → sy_St → sy_R) (kk45 : Int32 → Int32 → sy_St → sy_R) (kk56 : Int32 → Int32 → Int32 → sy_St → sy_R) (y2 : Int32) (y3 : Int32) (y4 : Int32) (S : sy_St) : sy_R := if (S 392 19) ≤ y4 then (sy_b (y3 + 1 : Int32) fun x13 => kk45 y2 x13 S) else (sy_c (m_Model_isNext y3 y4 S) fun r15 S14 => if r15 = 0 then (sy_b (y4 + 1 : Int32) fun x18 => kk56 y2 y3 x18 S14) else (sy_g (sy_in y4 6) <| sy_g (sy_in y3 6) <| if (S14 408 y3.toNatClampNeg) ≤ ((S14 408 y4.toNatClampNeg) + 1) then (sy_b (y4 + 1 : Int32) fun x22 => kk56 y2 y3 x22 S14) else (sy_g (sy_in y4 6) <| sy_g (sy_in y3 6) <| sy_b (sy_up S14 408 y3.toNatClampNeg ((S14 408 y4.toNatClampNeg) + 1)) fun S25 => sy_b (y4 + 1 : Int32) fun x26 => kk56 y2 y3 x26 S25)))
def m_Model_layFar_B45 (kk35 : Int32 → sy_St → sy_R) (kk45 : Int32 → Int32 → sy_St → sy_R) (y2 : Int32) (y3 : Int32) (S : sy_St) : sy_R := if (S 392 19) ≤ y3 then (sy_b (y2 + 1 : Int32) fun x11 => kk35 x11 S) else (sy_fix (fun _ _ _ _ => none) (m_Model_layFar_B56 kk35 kk45) sy_F y2 y3 0 S)
def m_Model_layFar_B35 (kk35 : Int32 → sy_St → sy_R) (y2 : Int32) (S : sy_St) : sy_R := if (S 392 19) ≤ y2 then (some (0, S)) else (sy_fix (fun _ _ _ => none) (m_Model_layFar_B45 kk35) sy_F y2 0 S)
def m_Model_layFar_B2 (kk2 : Int32 → Int32 → sy_St → sy_R) (y1 : Int32) (y2 : Int32) (S : sy_St) : sy_R := if (S 392 19) ≤ y2 then (sy_fix (fun _ _ => none) (m_Model_layFar_B35) sy_F 0 S) else (if y2 = y1 then (sy_g (sy_in y2 6) <| sy_b (sy_up S 408 y2.toNatClampNeg 0) fun S7 => sy_b (y2 + 1 : Int32) fun x8 => kk2 y1 x8 S7) else (sy_g (sy_in y2 6) <| sy_b (sy_up S 408 y2.toNatClampNeg 99) fun S4 => sy_b (y2 + 1 : Int32) fun x5 => kk2 y1 x5 S4))
def m_Model_layFar (p0 : Int32) (S : sy_St) : sy_R := sy_fix (fun _ _ _ => none) (m_Model_layFar_B2) sy_F p0 0 S
theorem cv_Model_layFar : sy_cV RX12 yX12_layFar cX12_layFar 5 none 1 := ⟨wm_837, wm_838, wm_5, wm_839, by decide +kernel⟩
set_option maxRecDepth 100000 in
set_option maxHeartbeats 40000000 in
theorem c_Model_layFar (l : Launch) {E : sy_ET} (ht : sy_OModel E) {p0 : Int32} {S S' : sy_St} {r : Int32} (h : m_Model_layFar p0 S = some (r, S')) : sy_MV l yX12_layFar cX12_layFar 5 4 87 [.ref (sy_ad E 392), .int p0] E S S' := by
  refine sy_MV_of RX12 pn_12 rfl (Nat.le_of_ble_eq_true rfl) (fun p e s m args below meth c A ls fx hr hlk hA X hl => ?_)
  have hx := fx.1
  have hb := fx.2.1
  have hown := fx.2.2.2.1
  have hts := fx.2.2.2.2
  have hl : lv_has ls 5 [(0, .ref (sy_ad E 392)), (1, .int p0)] := hl
  have L_35 : ∀ (n35 : Nat) (y2 : Int32) (S : sy_St) (H : Heap) (locs : List Loc) (ls : Array Slot), sy_Wd E A s S H locs → lv_has ls 5 [(0, .ref (sy_ad E 392)), (2, .int y2)] → sy_fix (fun _ _ => none) (m_Model_layFar_B35) n35 y2 S = some (r, S') → W p l e (sy_rm 4 87) s m args below meth c H locs 0 0 (MQ below (sy_Qv E A S') args s 0 0 A) (F0 m 35 ls []) := by
    intro n35
    induction n35 with
    | zero => intro y2 S H locs ls X hl h; have h9 : (none : sy_R) = some (r, S') := h; cases h9
    | succ n35 ih35 =>
      have L_45 : ∀ (n45 : Nat) (y2 y3 : Int32) (S : sy_St) (H : Heap) (locs : List Loc) (ls : Array Slot), sy_Wd E A s S H locs → lv_has ls 5 [(0, .ref (sy_ad E 392)), (2, .int y2), (3, .int y3)] → sy_fix (fun _ _ _ => none) (m_Model_layFar_B45 (sy_fix (fun _ _ => none) (m_Model_layFar_B35) n35)) n45 y2 y3 S = some (r, S') → W p l e (sy_rm 4 87) s m args below meth c H locs 0 0 (MQ below (sy_Qv E A S') args s 0 0 A) (F0 m 45 ls []) := by
        intro n45
        induction n45 with
        | zero => intro y2 y3 S H locs ls X hl h; have h9 : (none : sy_R) = some (r, S') := h; cases h9
        | succ n45 ih45 =>
          have L_56 : ∀ (n56 : Nat) (y2 y3 y4 : Int32) (S : sy_St) (H : Heap) (locs : List Loc) (ls : Array Slot), sy_Wd E A s S H locs → lv_has ls 5 [(0, .ref (sy_ad E 392)), (2, .int y2), (3, .int y3), (4, .int y4)] → sy_fix (fun _ _ _ _ => none) (m_Model_layFar_B56 (sy_fix (fun _ _ => none) (m_Model_layFar_B35) n35) (sy_fix (fun _ _ _ => none) (m_Model_layFar_B45 (sy_fix (fun _ _ => none) (m_Model_layFar_B35) n35)) n45)) n56 y2 y3 y4 S = some (r, S') → W p l e (sy_rm 4 87) s m args below meth c H locs 0 0 (MQ below (sy_Qv E A S') args s 0 0 A) (F0 m 56 ls []) := by
            intro n56
            induction n56 with
            | zero => intro y2 y3 y4 S H locs ls X hl h; have h9 : (none : sy_R) = some (r, S') := h; cases h9
            | succ n56 ih56 =>
              intro y2 y3 y4 S H locs ls X hl h
              have h : m_Model_layFar_B56 (sy_fix (fun _ _ => none) (m_Model_layFar_B35) n35) (sy_fix (fun _ _ _ => none) (m_Model_layFar_B45 (sy_fix (fun _ _ => none) (m_Model_layFar_B35) n35)) n45) (sy_fix (fun _ _ _ _ => none) (m_Model_layFar_B56 (sy_fix (fun _ _ => none) (m_Model_layFar_B35) n35) (sy_fix (fun _ _ _ => none) (m_Model_layFar_B45 (sy_fix (fun _ _ => none) (m_Model_layFar_B35) n35)) n45)) n56) y2 y3 y4 S = some (r, S') := h
              unfold m_Model_layFar_B56 at h
              refine lv_iload hx hb dX12_layFar_56 (lv_at hl 3 rfl) ?_
              refine lv_aload_n hx hb dX12_layFar_58 rfl (lv_at hl 0 rfl) ?_
              refine sy_g11 fx X (sy_OModel_o ht) 19 (by decide) wm_188 (fun _ h9 => h9) rfl dX12_layFar_59 ?_
              refine lv_icmp_ge (tgt := 114) hx hb dX12_layFar_62 (by decide) (fun c12 => ?_) (fun c12 => ?_)
              · have h := sy_t c12 h
                obtain ⟨x13, hx13, h⟩ := sy_b_e h
                refine lv_iinc (v := x13) (lv' := [(3, .int x13), (0, .ref (sy_ad E 392)), (2, .int y2), (4, .int y4)]) hx hb dX12_layFar_114 hl (k := 2) rfl (by rw [hx13]; rfl) (by decide) rfl (fun ls hl => ?_)
                refine lv_goto (tgt := 45) hx hb dX12_layFar_117 (by decide) ?_
                exact ih45 y2 x13 S _ _ _ X (lv_sub hl [1, 2, 0] rfl) h
              · have h := sy_f c12 h
                refine lv_aload_n hx hb dX12_layFar_65 rfl (lv_at hl 0 rfl) ?_
                refine lv_iload_n hx hb dX12_layFar_66 rfl (lv_at hl 2 rfl) ?_
                refine lv_iload hx hb dX12_layFar_67 (lv_at hl 3 rfl) ?_
                obtain ⟨r15, S14, hc16, h⟩ := sy_c_e h
                refine sy_vi (rest := []) fx hA X hl.1 (sy_OModel_o ht) (sy_en11 (sy_OModel_o ht).2) rfl (c_Model_isNext l ht hc16) cv_Model_isNext wm_840 ⟨Nat.le_of_ble_eq_true rfl, Nat.le_of_ble_eq_true rfl, Nat.le_refl _, Nat.le_refl _⟩ rfl rfl (Nat.le_of_ble_eq_true rfl) dX12_layFar_69 (fun H locs X => ?_)
                refine lv_if_eq (tgt := 108) hx hb dX12_layFar_72 (by decide) (fun c17 => ?_) (fun c17 => ?_)
                · have h := sy_t c17 h
                  obtain ⟨x18, hx18, h⟩ := sy_b_e h
                  refine lv_iinc (v := x18) (lv' := [(4, .int x18), (0, .ref (sy_ad E 392)), (2, .int y2), (3, .int y3)]) hx hb dX12_layFar_108 hl (k := 3) rfl (by rw [hx18]; rfl) (by decide) rfl (fun ls hl => ?_)
                  refine lv_goto (tgt := 56) hx hb dX12_layFar_111 (by decide) ?_
                  exact ih56 y2 y3 x18 S14 _ _ _ X (lv_sub hl [1, 2, 3, 0] rfl) h
                · have h := sy_f c17 h
                  refine lv_aload_n hx hb dX12_layFar_75 rfl (lv_at hl 0 rfl) ?_
                  refine sy_q11 fx X (sy_OModel_o ht) 33 (by decide) wm_182 (fun _ h9 => h9) rfl (sy_OModel_r33 ht) dX12_layFar_76 ?_
                  refine lv_iload hx hb dX12_layFar_79 (lv_at hl 3 rfl) ?_
                  obtain ⟨g19, h⟩ := sy_g_e h
                  refine sy_iald fx X (sy_OModel_a33 ht) g19 dX12_layFar_81 ?_
                  refine lv_iconst (v := 1) hx hb dX12_layFar_82 (by decide) ?_
                  refine lv_iadd hx hb dX12_layFar_83 ?_
                  refine lv_aload_n hx hb dX12_layFar_84 rfl (lv_at hl 0 rfl) ?_
                  refine sy_q11 fx X (sy_OModel_o ht) 33 (by decide) wm_182 (fun _ h9 => h9) rfl (sy_OModel_r33 ht) dX12_layFar_85 ?_
                  refine lv_iload_n hx hb dX12_layFar_88 rfl (lv_at hl 2 rfl) ?_
                  obtain ⟨g20, h⟩ := sy_g_e h
                  refine sy_iald fx X (sy_OModel_a33 ht) g20 dX12_layFar_89 ?_
                  refine lv_icmp_ge (tgt := 108) hx hb dX12_layFar_90 (by decide) (fun c21 => ?_) (fun c21 => ?_)
                  · have h := sy_t c21 h
                    obtain ⟨x22, hx22, h⟩ := sy_b_e h
                    refine lv_iinc (v := x22) (lv' := [(4, .int x22), (0, .ref (sy_ad E 392)), (2, .int y2), (3, .int y3)]) hx hb dX12_layFar_108 hl (k := 3) rfl (by rw [hx22]; rfl) (by decide) rfl (fun ls hl => ?_)
                    refine lv_goto (tgt := 56) hx hb dX12_layFar_111 (by decide) ?_
                    exact ih56 y2 y3 x22 S14 _ _ _ X (lv_sub hl [1, 2, 3, 0] rfl) h
                  · have h := sy_f c21 h
                    refine lv_aload_n hx hb dX12_layFar_93 rfl (lv_at hl 0 rfl) ?_
                    refine sy_q11 fx X (sy_OModel_o ht) 33 (by decide) wm_182 (fun _ h9 => h9) rfl (sy_OModel_r33 ht) dX12_layFar_94 ?_
                    refine lv_iload_n hx hb dX12_layFar_97 rfl (lv_at hl 2 rfl) ?_
                    refine lv_aload_n hx hb dX12_layFar_98 rfl (lv_at hl 0 rfl) ?_
                    refine sy_q11 fx X (sy_OModel_o ht) 33 (by decide) wm_182 (fun _ h9 => h9) rfl (sy_OModel_r33 ht) dX12_layFar_99 ?_
                    refine lv_iload hx hb dX12_layFar_102 (lv_at hl 3 rfl) ?_
                    obtain ⟨g23, h⟩ := sy_g_e h
                    refine sy_iald fx X (sy_OModel_a33 ht) g23 dX12_layFar_104 ?_
                    refine lv_iconst (v := 1) hx hb dX12_layFar_105 (by decide) ?_
                    refine lv_iadd hx hb dX12_layFar_106 ?_
                    obtain ⟨g24, h⟩ := sy_g_e h
                    obtain ⟨S25, hS25, h⟩ := sy_b_e h
                    refine sy_iast fx X (sy_OModel_a33 ht) g24 hS25 dX12_layFar_107 (fun H locs X => ?_)
                    obtain ⟨x26, hx26, h⟩ := sy_b_e h
                    refine lv_iinc (v := x26) (lv' := [(4, .int x26), (0, .ref (sy_ad E 392)), (2, .int y2), (3, .int y3)]) hx hb dX12_layFar_108 hl (k := 3) rfl (by rw [hx26]; rfl) (by decide) rfl (fun ls hl => ?_)
                    refine lv_goto (tgt := 56) hx hb dX12_layFar_111 (by decide) ?_
                    exact ih56 y2 y3 x26 S25 _ _ _ X (lv_sub hl [1, 2, 3, 0] rfl) h
          intro y2 y3 S H locs ls X hl h
          have h : m_Model_layFar_B45 (sy_fix (fun _ _ => none) (m_Model_layFar_B35) n35) (sy_fix (fun _ _ _ => none) (m_Model_layFar_B45 (sy_fix (fun _ _ => none) (m_Model_layFar_B35) n35)) n45) y2 y3 S = some (r, S') := h
          unfold m_Model_layFar_B45 at h
          refine lv_iload_n hx hb dX12_layFar_45 rfl (lv_at hl 2 rfl) ?_
          refine lv_aload_n hx hb dX12_layFar_46 rfl (lv_at hl 0 rfl) ?_
          refine sy_g11 fx X (sy_OModel_o ht) 19 (by decide) wm_188 (fun _ h9 => h9) rfl dX12_layFar_47 ?_
          refine lv_icmp_ge (tgt := 120) hx hb dX12_layFar_50 (by decide) (fun c10 => ?_) (fun c10 => ?_)
          · have h := sy_t c10 h
            obtain ⟨x11, hx11, h⟩ := sy_b_e h
            refine lv_iinc (v := x11) (lv' := [(2, .int x11), (0, .ref (sy_ad E 392)), (3, .int y3)]) hx hb dX12_layFar_120 hl (k := 1) rfl (by rw [hx11]; rfl) (by decide) rfl (fun ls hl => ?_)
            refine lv_goto (tgt := 35) hx hb dX12_layFar_123 (by decide) ?_
            exact ih35 x11 S _ _ _ X (lv_sub hl [1, 0] rfl) h
          · have h := sy_f c10 h
            refine lv_iconst (v := 0) hx hb dX12_layFar_53 (by decide) ?_
            refine lv_istore (lv' := [(4, .int 0), (0, .ref (sy_ad E 392)), (2, .int y2), (3, .int y3)]) hx hb dX12_layFar_54 hl (by decide) rfl (fun ls hl => ?_)
            exact L_56 sy_F y2 y3 0 S _ _ _ X (lv_sub hl [1, 2, 3, 0] rfl) h
      intro y2 S H locs ls X hl h
      have h : m_Model_layFar_B35 (sy_fix (fun _ _ => none) (m_Model_layFar_B35) n35) y2 S = some (r, S') := h
      unfold m_Model_layFar_B35 at h
      refine lv_iload_n hx hb dX12_layFar_35 rfl (lv_at hl 1 rfl) ?_
      refine lv_aload_n hx hb dX12_layFar_36 rfl (lv_at hl 0 rfl) ?_
      refine sy_g11 fx X (sy_OModel_o ht) 19 (by decide) wm_188 (fun _ h9 => h9) rfl dX12_layFar_37 ?_
      refine lv_icmp_ge (tgt := 126) hx hb dX12_layFar_40 (by decide) (fun c9 => ?_) (fun c9 => ?_)
      · have h := sy_t c9 h
        exact sy_vret fx X hr hlk h dX12_layFar_126
      · have h := sy_f c9 h
        refine lv_iconst (v := 0) hx hb dX12_layFar_43 (by decide) ?_
        refine lv_istore_n (lv' := [(3, .int 0), (0, .ref (sy_ad E 392)), (2, .int y2)]) hx hb dX12_layFar_44 rfl hl (by decide) rfl (fun ls hl => ?_)
        exact L_45 sy_F y2 0 S _ _ _ X (lv_sub hl [1, 2, 0] rfl) h
  have L_2 : ∀ (n2 : Nat) (y1 y2 : Int32) (S : sy_St) (H : Heap) (locs : List Loc) (ls : Array Slot), sy_Wd E A s S H locs → lv_has ls 5 [(0, .ref (sy_ad E 392)), (1, .int y1), (2, .int y2)] → sy_fix (fun _ _ _ => none) (m_Model_layFar_B2) n2 y1 y2 S = some (r, S') → W p l e (sy_rm 4 87) s m args below meth c H locs 0 0 (MQ below (sy_Qv E A S') args s 0 0 A) (F0 m 2 ls []) := by
    intro n2
    induction n2 with
    | zero => intro y1 y2 S H locs ls X hl h; have h9 : (none : sy_R) = some (r, S') := h; cases h9
    | succ n2 ih2 =>
      intro y1 y2 S H locs ls X hl h
      have h : m_Model_layFar_B2 (sy_fix (fun _ _ _ => none) (m_Model_layFar_B2) n2) y1 y2 S = some (r, S') := h
      unfold m_Model_layFar_B2 at h
      refine lv_iload_n hx hb dX12_layFar_2 rfl (lv_at hl 2 rfl) ?_
      refine lv_aload_n hx hb dX12_layFar_3 rfl (lv_at hl 0 rfl) ?_
      refine sy_g11 fx X (sy_OModel_o ht) 19 (by decide) wm_188 (fun _ h9 => h9) rfl dX12_layFar_4 ?_
      refine lv_icmp_ge (tgt := 33) hx hb dX12_layFar_7 (by decide) (fun c1 => ?_) (fun c1 => ?_)
      · have h := sy_t c1 h
        refine lv_iconst (v := 0) hx hb dX12_layFar_33 (by decide) ?_
        refine lv_istore_n (lv' := [(2, .int 0), (0, .ref (sy_ad E 392)), (1, .int y1)]) hx hb dX12_layFar_34 rfl hl (by decide) rfl (fun ls hl => ?_)
        exact L_35 sy_F 0 S _ _ _ X (lv_sub hl [1, 0] rfl) h
      · have h := sy_f c1 h
        refine lv_aload_n hx hb dX12_layFar_10 rfl (lv_at hl 0 rfl) ?_
        refine sy_q11 fx X (sy_OModel_o ht) 33 (by decide) wm_182 (fun _ h9 => h9) rfl (sy_OModel_r33 ht) dX12_layFar_11 ?_
        refine lv_iload_n hx hb dX12_layFar_14 rfl (lv_at hl 2 rfl) ?_
        refine lv_iload_n hx hb dX12_layFar_15 rfl (lv_at hl 2 rfl) ?_
        refine lv_iload_n hx hb dX12_layFar_16 rfl (lv_at hl 1 rfl) ?_
        refine lv_icmp_ne (tgt := 24) hx hb dX12_layFar_17 (by decide) (fun c2 => ?_) (fun c2 => ?_)
        · have h := sy_f c2 h
          refine lv_bipush (v := 99) hx hb dX12_layFar_24 (by decide) ?_
          obtain ⟨g3, h⟩ := sy_g_e h
          obtain ⟨S4, hS4, h⟩ := sy_b_e h
          refine sy_iast fx X (sy_OModel_a33 ht) g3 hS4 dX12_layFar_26 (fun H locs X => ?_)
          obtain ⟨x5, hx5, h⟩ := sy_b_e h
          refine lv_iinc (v := x5) (lv' := [(2, .int x5), (0, .ref (sy_ad E 392)), (1, .int y1)]) hx hb dX12_layFar_27 hl (k := 2) rfl (by rw [hx5]; rfl) (by decide) rfl (fun ls hl => ?_)
          refine lv_goto (tgt := 2) hx hb dX12_layFar_30 (by decide) ?_
          exact ih2 y1 x5 S4 _ _ _ X (lv_sub hl [1, 2, 0] rfl) h
        · have h := sy_t c2 h
          refine lv_iconst (v := 0) hx hb dX12_layFar_20 (by decide) ?_
          refine lv_goto (tgt := 26) hx hb dX12_layFar_21 (by decide) ?_
          obtain ⟨g6, h⟩ := sy_g_e h
          obtain ⟨S7, hS7, h⟩ := sy_b_e h
          refine sy_iast fx X (sy_OModel_a33 ht) g6 hS7 dX12_layFar_26 (fun H locs X => ?_)
          obtain ⟨x8, hx8, h⟩ := sy_b_e h
          refine lv_iinc (v := x8) (lv' := [(2, .int x8), (0, .ref (sy_ad E 392)), (1, .int y1)]) hx hb dX12_layFar_27 hl (k := 2) rfl (by rw [hx8]; rfl) (by decide) rfl (fun ls hl => ?_)
          refine lv_goto (tgt := 2) hx hb dX12_layFar_30 (by decide) ?_
          exact ih2 y1 x8 S7 _ _ _ X (lv_sub hl [1, 2, 0] rfl) h
  unfold m_Model_layFar at h
  refine lv_iconst (v := 0) hx hb dX12_layFar_0 (by decide) ?_
  refine lv_istore_n (lv' := [(2, .int 0), (0, .ref (sy_ad E 392)), (1, .int p0)]) hx hb dX12_layFar_1 rfl hl (by decide) rfl (fun ls hl => ?_)
  exact L_2 sy_F p0 0 S _ _ _ X (lv_sub hl [1, 2, 0] rfl) h
def m_Model_chain_B154 (kk137 : Int32 → Int32 → Int32 → Int32 → sy_St → sy_R) (kk154 : Int32 → Int32 → Int32 → Int32 → Int32 → Int32 → sy_St → sy_R) (y2 : Int32) (y3 : Int32) (y5 : Int32) (y6 : Int32) (y7 : Int32) (y8 : Int32) (S : sy_St) : sy_R := if y8 < 0 then (sy_b (y5 + (-1) : Int32) fun x32 => sy_b (y6 + 1 : Int32) fun x33 => kk137 y2 y7 x32 x33 S) else (sy_c (m_Model_isNext y3 y8 S) fun r35 S34 => if r35 = 0 then (sy_b (y8 + (-1) : Int32) fun x38 => kk154 y2 y3 y5 y6 y7 x38 S34) else (sy_g (sy_in y8 6) <| if ((S34 408 y8.toNatClampNeg) + 1) = y5 then (sy_b (y8 + (-1) : Int32) fun x42 => kk154 y2 y3 y5 y6 y8 x42 S34) else (sy_b (y8 + (-1) : Int32) fun x41 => kk154 y2 y3 y5 y6 y7 x41 S34)))
def m_Model_chain_B137 (kk137 : Int32 → Int32 → Int32 → Int32 → sy_St → sy_R) (y2 : Int32) (y3 : Int32) (y5 : Int32) (y6 : Int32) (S : sy_St) : sy_R := if y2 < y6 then (some (y3, S)) else (sy_b ((S 392 19) - 1 : Int32) fun x30 => sy_fix (fun _ _ _ _ _ _ _ => none) (m_Model_chain_B154 kk137) sy_F y2 y3 y5 y6 (-1) x30 S)
def m_Model_chain_B47 (kk47 : Int32 → Int32 → Int32 → Int32 → sy_St → sy_R) (y2 : Int32) (y3 : Int32) (y4 : Int32) (y5 : Int32) (S : sy_St) : sy_R := if (S 392 19) ≤ y5 then (if y4 = 99 then (some ((-1), S)) else (if y4 ≤ y2 then (some ((-1), S)) else (if (-1) ≤ y2 then (if y2 = (-1) then (some (y4, S)) else (sy_fix (fun _ _ _ _ _ => none) (m_Model_chain_B137) sy_F y2 y3 y4 0 S)) else (some ((-1), S))))) else (sy_c (m_Model_isNext (-1) y5 S) fun r19 S18 => if r19 = 0 then (sy_b (y5 + 1 : Int32) fun x22 => kk47 y2 y3 y4 x22 S18) else (sy_g (sy_in y5 6) <| if y4 ≤ ((S18 408 y5.toNatClampNeg) + 1) then (sy_b (y5 + 1 : Int32) fun x25 => kk47 y2 y3 y4 x25 S18) else (sy_g (sy_in y5 6) <| sy_b ((S18 408 y5.toNatClampNeg) + 1 : Int32) fun x27 => sy_b (y5 + 1 : Int32) fun x28 => kk47 y2 y3 x27 x28 S18)))
def m_Model_chain (p0 : Int32) (p1 : Int32) (S : sy_St) : sy_R := sy_c (m_Model_isOne p0 S) fun r2 S1 => if r2 = 0 then (some ((-1000000001), S1)) else (sy_c (m_Model_holds 400 31 p0 S1) fun r6 S5 => if r6 = 0 then (sy_c (m_Model_layFar p0 S5) fun r10 S9 => sy_fix (fun _ _ _ _ _ => none) (m_Model_chain_B47) sy_F p1 (-1) 99 0 S9) else (if p1 = (-1) then (some (0, S5)) else (some ((-1), S5))))
theorem cv_Model_chain : sy_cV RX12 yX12_chain cX12_chain 9 (some .int) 2 := ⟨wm_833, wm_834, wm_5, wm_835, by decide +kernel⟩
set_option maxRecDepth 100000 in
set_option maxHeartbeats 40000000 in
theorem c_Model_chain (l : Launch) {E : sy_ET} (ht : sy_OModel E) {p0 : Int32} {p1 : Int32} {S S' : sy_St} {r : Int32} (h : m_Model_chain p0 p1 S = some (r, S')) : sy_MI l yX12_chain cX12_chain 9 (some .int) 5 111 [.ref (sy_ad E 392), .int p0, .int p1] E S r S' := by
  refine sy_MI_of RX12 pn_12 rfl (Nat.le_of_ble_eq_true rfl) (fun p e s m args below meth c A ls fx hr hlk hA X hl => ?_)
  have hx := fx.1
  have hb := fx.2.1
  have hown := fx.2.2.2.1
  have hts := fx.2.2.2.2
  have hl : lv_has ls 9 [(0, .ref (sy_ad E 392)), (1, .int p0), (2, .int p1)] := hl
  have L_137 : ∀ (n137 : Nat) (y2 y3 y5 y6 : Int32) (S : sy_St) (H : Heap) (locs : List Loc) (ls : Array Slot), sy_Wd E A s S H locs → lv_has ls 9 [(0, .ref (sy_ad E 392)), (2, .int y2), (3, .int y3), (5, .int y5), (6, .int y6)] → sy_fix (fun _ _ _ _ _ => none) (m_Model_chain_B137) n137 y2 y3 y5 y6 S = some (r, S') → W p l e (sy_rm 5 111) s m args below meth c H locs 0 0 (MQ below (sy_Qi E A r S') args s 0 0 A) (F0 m 137 ls []) := by
    intro n137
    induction n137 with
    | zero => intro y2 y3 y5 y6 S H locs ls X hl h; have h9 : (none : sy_R) = some (r, S') := h; cases h9
    | succ n137 ih137 =>
      have L_154 : ∀ (n154 : Nat) (y2 y3 y5 y6 y7 y8 : Int32) (S : sy_St) (H : Heap) (locs : List Loc) (ls : Array Slot), sy_Wd E A s S H locs → lv_has ls 9 [(0, .ref (sy_ad E 392)), (2, .int y2), (3, .int y3), (5, .int y5), (6, .int y6), (7, .int y7), (8, .int y8)] → sy_fix (fun _ _ _ _ _ _ _ => none) (m_Model_chain_B154 (sy_fix (fun _ _ _ _ _ => none) (m_Model_chain_B137) n137)) n154 y2 y3 y5 y6 y7 y8 S = some (r, S') → W p l e (sy_rm 5 111) s m args below meth c H locs 0 0 (MQ below (sy_Qi E A r S') args s 0 0 A) (F0 m 154 ls []) := by
        intro n154
        induction n154 with
        | zero => intro y2 y3 y5 y6 y7 y8 S H locs ls X hl h; have h9 : (none : sy_R) = some (r, S') := h; cases h9
        | succ n154 ih154 =>
          intro y2 y3 y5 y6 y7 y8 S H locs ls X hl h
          have h : m_Model_chain_B154 (sy_fix (fun _ _ _ _ _ => none) (m_Model_chain_B137) n137) (sy_fix (fun _ _ _ _ _ _ _ => none) (m_Model_chain_B154 (sy_fix (fun _ _ _ _ _ => none) (m_Model_chain_B137) n137)) n154) y2 y3 y5 y6 y7 y8 S = some (r, S') := h
          unfold m_Model_chain_B154 at h
          refine lv_iload hx hb dX12_chain_154 (lv_at hl 6 rfl) ?_
          refine lv_if_lt (tgt := 198) hx hb dX12_chain_156 (by decide) (fun c31 => ?_) (fun c31 => ?_)
          · have h := sy_t c31 h
            refine lv_iload hx hb dX12_chain_198 (lv_at hl 5 rfl) ?_
            refine lv_istore_n (lv' := [(3, .int y7), (0, .ref (sy_ad E 392)), (2, .int y2), (5, .int y5), (6, .int y6), (7, .int y7), (8, .int y8)]) hx hb dX12_chain_200 rfl hl (by decide) rfl (fun ls hl => ?_)
            obtain ⟨x32, hx32, h⟩ := sy_b_e h
            refine lv_iinc (v := x32) (lv' := [(5, .int x32), (3, .int y7), (0, .ref (sy_ad E 392)), (2, .int y2), (6, .int y6), (7, .int y7), (8, .int y8)]) hx hb dX12_chain_201 hl (k := 3) rfl (by rw [hx32]; rfl) (by decide) rfl (fun ls hl => ?_)
            obtain ⟨x33, hx33, h⟩ := sy_b_e h
            refine lv_iinc (v := x33) (lv' := [(6, .int x33), (5, .int x32), (3, .int y7), (0, .ref (sy_ad E 392)), (2, .int y2), (7, .int y7), (8, .int y8)]) hx hb dX12_chain_204 hl (k := 4) rfl (by rw [hx33]; rfl) (by decide) rfl (fun ls hl => ?_)
            refine lv_goto (tgt := 137) hx hb dX12_chain_207 (by decide) ?_
            exact ih137 y2 y7 x32 x33 S _ _ _ X (lv_sub hl [3, 4, 2, 1, 0] rfl) h
          · have h := sy_f c31 h
            refine lv_aload_n hx hb dX12_chain_159 rfl (lv_at hl 0 rfl) ?_
            refine lv_iload_n hx hb dX12_chain_160 rfl (lv_at hl 2 rfl) ?_
            refine lv_iload hx hb dX12_chain_161 (lv_at hl 6 rfl) ?_
            obtain ⟨r35, S34, hc36, h⟩ := sy_c_e h
            refine sy_vi (rest := []) fx hA X hl.1 (sy_OModel_o ht) (sy_en11 (sy_OModel_o ht).2) rfl (c_Model_isNext l ht hc36) cv_Model_isNext wm_840 ⟨Nat.le_of_ble_eq_true rfl, Nat.le_of_ble_eq_true rfl, Nat.le_refl _, Nat.le_refl _⟩ rfl rfl (Nat.le_of_ble_eq_true rfl) dX12_chain_163 (fun H locs X => ?_)
            refine lv_if_eq (tgt := 188) hx hb dX12_chain_166 (by decide) (fun c37 => ?_) (fun c37 => ?_)
            · have h := sy_t c37 h
              refine lv_iload hx hb dX12_chain_188 (lv_at hl 5 rfl) ?_
              refine lv_istore (lv' := [(7, .int y7), (0, .ref (sy_ad E 392)), (2, .int y2), (3, .int y3), (5, .int y5), (6, .int y6), (8, .int y8)]) hx hb dX12_chain_190 hl (by decide) rfl (fun ls hl => ?_)
              obtain ⟨x38, hx38, h⟩ := sy_b_e h
              refine lv_iinc (v := x38) (lv' := [(8, .int x38), (7, .int y7), (0, .ref (sy_ad E 392)), (2, .int y2), (3, .int y3), (5, .int y5), (6, .int y6)]) hx hb dX12_chain_192 hl (k := 6) rfl (by rw [hx38]; rfl) (by decide) rfl (fun ls hl => ?_)
              refine lv_goto (tgt := 154) hx hb dX12_chain_195 (by decide) ?_
              exact ih154 y2 y3 y5 y6 y7 x38 S34 _ _ _ X (lv_sub hl [2, 3, 4, 5, 6, 1, 0] rfl) h
            · have h := sy_f c37 h
              refine lv_aload_n hx hb dX12_chain_169 rfl (lv_at hl 0 rfl) ?_
              refine sy_q11 fx X (sy_OModel_o ht) 33 (by decide) wm_182 (fun _ h9 => h9) rfl (sy_OModel_r33 ht) dX12_chain_170 ?_
              refine lv_iload hx hb dX12_chain_173 (lv_at hl 6 rfl) ?_
              obtain ⟨g39, h⟩ := sy_g_e h
              refine sy_iald fx X (sy_OModel_a33 ht) g39 dX12_chain_175 ?_
              refine lv_iconst (v := 1) hx hb dX12_chain_176 (by decide) ?_
              refine lv_iadd hx hb dX12_chain_177 ?_
              refine lv_iload hx hb dX12_chain_178 (lv_at hl 3 rfl) ?_
              refine lv_icmp_ne (tgt := 188) hx hb dX12_chain_180 (by decide) (fun c40 => ?_) (fun c40 => ?_)
              · have h := sy_f c40 h
                refine lv_iload hx hb dX12_chain_188 (lv_at hl 5 rfl) ?_
                refine lv_istore (lv' := [(7, .int y7), (0, .ref (sy_ad E 392)), (2, .int y2), (3, .int y3), (5, .int y5), (6, .int y6), (8, .int y8)]) hx hb dX12_chain_190 hl (by decide) rfl (fun ls hl => ?_)
                obtain ⟨x41, hx41, h⟩ := sy_b_e h
                refine lv_iinc (v := x41) (lv' := [(8, .int x41), (7, .int y7), (0, .ref (sy_ad E 392)), (2, .int y2), (3, .int y3), (5, .int y5), (6, .int y6)]) hx hb dX12_chain_192 hl (k := 6) rfl (by rw [hx41]; rfl) (by decide) rfl (fun ls hl => ?_)
                refine lv_goto (tgt := 154) hx hb dX12_chain_195 (by decide) ?_
                exact ih154 y2 y3 y5 y6 y7 x41 S34 _ _ _ X (lv_sub hl [2, 3, 4, 5, 6, 1, 0] rfl) h
              · have h := sy_t c40 h
                refine lv_iload hx hb dX12_chain_183 (lv_at hl 6 rfl) ?_
                refine lv_goto (tgt := 190) hx hb dX12_chain_185 (by decide) ?_
                refine lv_istore (lv' := [(7, .int y8), (0, .ref (sy_ad E 392)), (2, .int y2), (3, .int y3), (5, .int y5), (6, .int y6), (8, .int y8)]) hx hb dX12_chain_190 hl (by decide) rfl (fun ls hl => ?_)
                obtain ⟨x42, hx42, h⟩ := sy_b_e h
                refine lv_iinc (v := x42) (lv' := [(8, .int x42), (7, .int y8), (0, .ref (sy_ad E 392)), (2, .int y2), (3, .int y3), (5, .int y5), (6, .int y6)]) hx hb dX12_chain_192 hl (k := 6) rfl (by rw [hx42]; rfl) (by decide) rfl (fun ls hl => ?_)
                refine lv_goto (tgt := 154) hx hb dX12_chain_195 (by decide) ?_
                exact ih154 y2 y3 y5 y6 y8 x42 S34 _ _ _ X (lv_sub hl [2, 3, 4, 5, 6, 1, 0] rfl) h
      intro y2 y3 y5 y6 S H locs ls X hl h
      have h : m_Model_chain_B137 (sy_fix (fun _ _ _ _ _ => none) (m_Model_chain_B137) n137) y2 y3 y5 y6 S = some (r, S') := h
      unfold m_Model_chain_B137 at h
      refine lv_iload hx hb dX12_chain_137 (lv_at hl 4 rfl) ?_
      refine lv_iload_n hx hb dX12_chain_139 rfl (lv_at hl 1 rfl) ?_
      refine lv_icmp_gt (tgt := 210) hx hb dX12_chain_140 (by decide) (fun c29 => ?_) (fun c29 => ?_)
      · have h := sy_t c29 h
        refine lv_iload_n hx hb dX12_chain_210 rfl (lv_at hl 2 rfl) ?_
        exact sy_iret fx X hr hlk h dX12_chain_211
      · have h := sy_f c29 h
        refine lv_iconst (v := (-1)) hx hb dX12_chain_143 (by decide) ?_
        refine lv_istore (lv' := [(7, .int (-1)), (0, .ref (sy_ad E 392)), (2, .int y2), (3, .int y3), (5, .int y5), (6, .int y6)]) hx hb dX12_chain_144 hl (by decide) rfl (fun ls hl => ?_)
        refine lv_aload_n hx hb dX12_chain_146 rfl (lv_at hl 1 rfl) ?_
        refine sy_g11 fx X (sy_OModel_o ht) 19 (by decide) wm_188 (fun _ h9 => h9) rfl dX12_chain_147 ?_
        refine lv_iconst (v := 1) hx hb dX12_chain_150 (by decide) ?_
        refine lv_isub hx hb dX12_chain_151 ?_
        obtain ⟨x30, hx30, h⟩ := sy_b_e h
        refine sy_top hx30 ?_
        refine lv_istore (lv' := [(8, .int x30), (7, .int (-1)), (0, .ref (sy_ad E 392)), (2, .int y2), (3, .int y3), (5, .int y5), (6, .int y6)]) hx hb dX12_chain_152 hl (by decide) rfl (fun ls hl => ?_)
        exact L_154 sy_F y2 y3 y5 y6 (-1) x30 S _ _ _ X (lv_sub hl [2, 3, 4, 5, 6, 1, 0] rfl) h
  have L_47 : ∀ (n47 : Nat) (y2 y3 y4 y5 : Int32) (S : sy_St) (H : Heap) (locs : List Loc) (ls : Array Slot), sy_Wd E A s S H locs → lv_has ls 9 [(0, .ref (sy_ad E 392)), (2, .int y2), (3, .int y3), (4, .int y4), (5, .int y5)] → sy_fix (fun _ _ _ _ _ => none) (m_Model_chain_B47) n47 y2 y3 y4 y5 S = some (r, S') → W p l e (sy_rm 5 111) s m args below meth c H locs 0 0 (MQ below (sy_Qi E A r S') args s 0 0 A) (F0 m 47 ls []) := by
    intro n47
    induction n47 with
    | zero => intro y2 y3 y4 y5 S H locs ls X hl h; have h9 : (none : sy_R) = some (r, S') := h; cases h9
    | succ n47 ih47 =>
      intro y2 y3 y4 y5 S H locs ls X hl h
      have h : m_Model_chain_B47 (sy_fix (fun _ _ _ _ _ => none) (m_Model_chain_B47) n47) y2 y3 y4 y5 S = some (r, S') := h
      unfold m_Model_chain_B47 at h
      refine lv_iload hx hb dX12_chain_47 (lv_at hl 4 rfl) ?_
      refine lv_aload_n hx hb dX12_chain_49 rfl (lv_at hl 0 rfl) ?_
      refine sy_g11 fx X (sy_OModel_o ht) 19 (by decide) wm_188 (fun _ h9 => h9) rfl dX12_chain_50 ?_
      refine lv_icmp_ge (tgt := 102) hx hb dX12_chain_53 (by decide) (fun c13 => ?_) (fun c13 => ?_)
      · have h := sy_t c13 h
        refine lv_iload hx hb dX12_chain_102 (lv_at hl 3 rfl) ?_
        refine lv_bipush (v := 99) hx hb dX12_chain_104 (by decide) ?_
        refine lv_icmp_eq (tgt := 120) hx hb dX12_chain_106 (by decide) (fun c14 => ?_) (fun c14 => ?_)
        · have h := sy_t c14 h
          refine lv_iconst (v := (-1)) hx hb dX12_chain_120 (by decide) ?_
          exact sy_iret fx X hr hlk h dX12_chain_121
        · have h := sy_f c14 h
          refine lv_iload_n hx hb dX12_chain_109 rfl (lv_at hl 1 rfl) ?_
          refine lv_iload hx hb dX12_chain_110 (lv_at hl 3 rfl) ?_
          refine lv_icmp_ge (tgt := 120) hx hb dX12_chain_112 (by decide) (fun c15 => ?_) (fun c15 => ?_)
          · have h := sy_t c15 h
            refine lv_iconst (v := (-1)) hx hb dX12_chain_120 (by decide) ?_
            exact sy_iret fx X hr hlk h dX12_chain_121
          · have h := sy_f c15 h
            refine lv_iload_n hx hb dX12_chain_115 rfl (lv_at hl 1 rfl) ?_
            refine lv_iconst (v := (-1)) hx hb dX12_chain_116 (by decide) ?_
            refine lv_icmp_ge (tgt := 122) hx hb dX12_chain_117 (by decide) (fun c16 => ?_) (fun c16 => ?_)
            · have h := sy_t c16 h
              refine lv_iload_n hx hb dX12_chain_122 rfl (lv_at hl 1 rfl) ?_
              refine lv_iconst (v := (-1)) hx hb dX12_chain_123 (by decide) ?_
              refine lv_icmp_ne (tgt := 130) hx hb dX12_chain_124 (by decide) (fun c17 => ?_) (fun c17 => ?_)
              · have h := sy_f c17 h
                refine lv_iload hx hb dX12_chain_130 (lv_at hl 3 rfl) ?_
                refine lv_istore (lv' := [(5, .int y4), (0, .ref (sy_ad E 392)), (2, .int y2), (3, .int y3), (4, .int y4)]) hx hb dX12_chain_132 hl (by decide) rfl (fun ls hl => ?_)
                refine lv_iconst (v := 0) hx hb dX12_chain_134 (by decide) ?_
                refine lv_istore (lv' := [(6, .int 0), (5, .int y4), (0, .ref (sy_ad E 392)), (2, .int y2), (3, .int y3), (4, .int y4)]) hx hb dX12_chain_135 hl (by decide) rfl (fun ls hl => ?_)
                exact L_137 sy_F y2 y3 y4 0 S _ _ _ X (lv_sub hl [2, 3, 4, 1, 0] rfl) h
              · have h := sy_t c17 h
                refine lv_iload hx hb dX12_chain_127 (lv_at hl 3 rfl) ?_
                exact sy_iret fx X hr hlk h dX12_chain_129
            · have h := sy_f c16 h
              refine lv_iconst (v := (-1)) hx hb dX12_chain_120 (by decide) ?_
              exact sy_iret fx X hr hlk h dX12_chain_121
      · have h := sy_f c13 h
        refine lv_aload_n hx hb dX12_chain_56 rfl (lv_at hl 0 rfl) ?_
        refine lv_iconst (v := (-1)) hx hb dX12_chain_57 (by decide) ?_
        refine lv_iload hx hb dX12_chain_58 (lv_at hl 4 rfl) ?_
        obtain ⟨r19, S18, hc20, h⟩ := sy_c_e h
        refine sy_vi (rest := []) fx hA X hl.1 (sy_OModel_o ht) (sy_en11 (sy_OModel_o ht).2) rfl (c_Model_isNext l ht hc20) cv_Model_isNext wm_840 ⟨Nat.le_of_ble_eq_true rfl, Nat.le_of_ble_eq_true rfl, Nat.le_refl _, Nat.le_refl _⟩ rfl rfl (Nat.le_of_ble_eq_true rfl) dX12_chain_60 (fun H locs X => ?_)
        refine lv_if_eq (tgt := 92) hx hb dX12_chain_63 (by decide) (fun c21 => ?_) (fun c21 => ?_)
        · have h := sy_t c21 h
          refine lv_iload hx hb dX12_chain_92 (lv_at hl 3 rfl) ?_
          refine lv_istore (lv' := [(4, .int y4), (0, .ref (sy_ad E 392)), (2, .int y2), (3, .int y3), (5, .int y5)]) hx hb dX12_chain_94 hl (by decide) rfl (fun ls hl => ?_)
          obtain ⟨x22, hx22, h⟩ := sy_b_e h
          refine lv_iinc (v := x22) (lv' := [(5, .int x22), (4, .int y4), (0, .ref (sy_ad E 392)), (2, .int y2), (3, .int y3)]) hx hb dX12_chain_96 hl (k := 4) rfl (by rw [hx22]; rfl) (by decide) rfl (fun ls hl => ?_)
          refine lv_goto (tgt := 47) hx hb dX12_chain_99 (by decide) ?_
          exact ih47 y2 y3 y4 x22 S18 _ _ _ X (lv_sub hl [2, 3, 4, 1, 0] rfl) h
        · have h := sy_f c21 h
          refine lv_aload_n hx hb dX12_chain_66 rfl (lv_at hl 0 rfl) ?_
          refine sy_q11 fx X (sy_OModel_o ht) 33 (by decide) wm_182 (fun _ h9 => h9) rfl (sy_OModel_r33 ht) dX12_chain_67 ?_
          refine lv_iload hx hb dX12_chain_70 (lv_at hl 4 rfl) ?_
          obtain ⟨g23, h⟩ := sy_g_e h
          refine sy_iald fx X (sy_OModel_a33 ht) g23 dX12_chain_72 ?_
          refine lv_iconst (v := 1) hx hb dX12_chain_73 (by decide) ?_
          refine lv_iadd hx hb dX12_chain_74 ?_
          refine lv_iload hx hb dX12_chain_75 (lv_at hl 3 rfl) ?_
          refine lv_icmp_ge (tgt := 92) hx hb dX12_chain_77 (by decide) (fun c24 => ?_) (fun c24 => ?_)
          · have h := sy_t c24 h
            refine lv_iload hx hb dX12_chain_92 (lv_at hl 3 rfl) ?_
            refine lv_istore (lv' := [(4, .int y4), (0, .ref (sy_ad E 392)), (2, .int y2), (3, .int y3), (5, .int y5)]) hx hb dX12_chain_94 hl (by decide) rfl (fun ls hl => ?_)
            obtain ⟨x25, hx25, h⟩ := sy_b_e h
            refine lv_iinc (v := x25) (lv' := [(5, .int x25), (4, .int y4), (0, .ref (sy_ad E 392)), (2, .int y2), (3, .int y3)]) hx hb dX12_chain_96 hl (k := 4) rfl (by rw [hx25]; rfl) (by decide) rfl (fun ls hl => ?_)
            refine lv_goto (tgt := 47) hx hb dX12_chain_99 (by decide) ?_
            exact ih47 y2 y3 y4 x25 S18 _ _ _ X (lv_sub hl [2, 3, 4, 1, 0] rfl) h
          · have h := sy_f c24 h
            refine lv_aload_n hx hb dX12_chain_80 rfl (lv_at hl 0 rfl) ?_
            refine sy_q11 fx X (sy_OModel_o ht) 33 (by decide) wm_182 (fun _ h9 => h9) rfl (sy_OModel_r33 ht) dX12_chain_81 ?_
            refine lv_iload hx hb dX12_chain_84 (lv_at hl 4 rfl) ?_
            obtain ⟨g26, h⟩ := sy_g_e h
            refine sy_iald fx X (sy_OModel_a33 ht) g26 dX12_chain_86 ?_
            refine lv_iconst (v := 1) hx hb dX12_chain_87 (by decide) ?_
            refine lv_iadd hx hb dX12_chain_88 ?_
            refine lv_goto (tgt := 94) hx hb dX12_chain_89 (by decide) ?_
            obtain ⟨x27, hx27, h⟩ := sy_b_e h
            refine sy_top hx27 ?_
            refine lv_istore (lv' := [(4, .int x27), (0, .ref (sy_ad E 392)), (2, .int y2), (3, .int y3), (5, .int y5)]) hx hb dX12_chain_94 hl (by decide) rfl (fun ls hl => ?_)
            obtain ⟨x28, hx28, h⟩ := sy_b_e h
            refine lv_iinc (v := x28) (lv' := [(5, .int x28), (4, .int x27), (0, .ref (sy_ad E 392)), (2, .int y2), (3, .int y3)]) hx hb dX12_chain_96 hl (k := 4) rfl (by rw [hx28]; rfl) (by decide) rfl (fun ls hl => ?_)
            refine lv_goto (tgt := 47) hx hb dX12_chain_99 (by decide) ?_
            exact ih47 y2 y3 x27 x28 S18 _ _ _ X (lv_sub hl [2, 3, 4, 1, 0] rfl) h
  unfold m_Model_chain at h
  refine lv_aload_n hx hb dX12_chain_0 rfl (lv_at hl 0 rfl) ?_
  refine lv_iload_n hx hb dX12_chain_1 rfl (lv_at hl 1 rfl) ?_
  obtain ⟨r2, S1, hc3, h⟩ := sy_c_e h
  refine sy_vi (rest := []) fx hA X hl.1 (sy_OModel_o ht) (sy_en11 (sy_OModel_o ht).2) rfl (c_Model_isOne l ht hc3) cv_Model_isOne wm_458 ⟨Nat.le_of_ble_eq_true rfl, Nat.le_of_ble_eq_true rfl, Nat.le_refl _, Nat.le_refl _⟩ rfl rfl (Nat.le_of_ble_eq_true rfl) dX12_chain_2 (fun H locs X => ?_)
  refine lv_if_ne (tgt := 11) hx hb dX12_chain_5 (by decide) (fun c4 => ?_) (fun c4 => ?_)
  · have h := sy_f c4 h
    refine lv_aload_n hx hb dX12_chain_11 rfl (lv_at hl 0 rfl) ?_
    refine sy_q11 fx X (sy_OModel_o ht) 22 (by decide) wm_174 (fun _ h9 => h9) rfl (sy_OModel_r22 ht) dX12_chain_12 ?_
    refine lv_iload_n hx hb dX12_chain_15 rfl (lv_at hl 1 rfl) ?_
    obtain ⟨r6, S5, hc7, h⟩ := sy_c_e h
    refine sy_si (rest := []) fx hA X hl.1 (c_Model_holds l (sy_OModel_a22 ht) hc7) cv_Model_holds wm_570 ⟨Nat.le_of_ble_eq_true rfl, Nat.le_of_ble_eq_true rfl, Nat.le_refl _, Nat.le_refl _⟩ rfl rfl (Nat.le_of_ble_eq_true rfl) dX12_chain_16 (fun H locs X => ?_)
    refine lv_if_eq (tgt := 33) hx hb dX12_chain_19 (by decide) (fun c8 => ?_) (fun c8 => ?_)
    · have h := sy_t c8 h
      refine lv_aload_n hx hb dX12_chain_33 rfl (lv_at hl 0 rfl) ?_
      refine lv_iload_n hx hb dX12_chain_34 rfl (lv_at hl 1 rfl) ?_
      obtain ⟨r10, S9, hc11, h⟩ := sy_c_e h
      refine sy_vv (rest := []) fx hA X hl.1 (sy_OModel_o ht) (sy_en11 (sy_OModel_o ht).2) rfl (c_Model_layFar l ht hc11) cv_Model_layFar wm_836 ⟨Nat.le_of_ble_eq_true rfl, Nat.le_of_ble_eq_true rfl, Nat.le_refl _, Nat.le_refl _⟩ rfl rfl (Nat.le_of_ble_eq_true rfl) dX12_chain_35 (fun H locs X => ?_)
      refine lv_iconst (v := (-1)) hx hb dX12_chain_38 (by decide) ?_
      refine lv_istore_n (lv' := [(3, .int (-1)), (0, .ref (sy_ad E 392)), (1, .int p0), (2, .int p1)]) hx hb dX12_chain_39 rfl hl (by decide) rfl (fun ls hl => ?_)
      refine lv_bipush (v := 99) hx hb dX12_chain_40 (by decide) ?_
      refine lv_istore (lv' := [(4, .int 99), (3, .int (-1)), (0, .ref (sy_ad E 392)), (1, .int p0), (2, .int p1)]) hx hb dX12_chain_42 hl (by decide) rfl (fun ls hl => ?_)
      refine lv_iconst (v := 0) hx hb dX12_chain_44 (by decide) ?_
      refine lv_istore (lv' := [(5, .int 0), (4, .int 99), (3, .int (-1)), (0, .ref (sy_ad E 392)), (1, .int p0), (2, .int p1)]) hx hb dX12_chain_45 hl (by decide) rfl (fun ls hl => ?_)
      exact L_47 sy_F p1 (-1) 99 0 S9 _ _ _ X (lv_sub hl [3, 5, 2, 1, 0] rfl) h
    · have h := sy_f c8 h
      refine lv_iload_n hx hb dX12_chain_22 rfl (lv_at hl 2 rfl) ?_
      refine lv_iconst (v := (-1)) hx hb dX12_chain_23 (by decide) ?_
      refine lv_icmp_ne (tgt := 31) hx hb dX12_chain_24 (by decide) (fun c12 => ?_) (fun c12 => ?_)
      · have h := sy_f c12 h
        refine lv_iconst (v := (-1)) hx hb dX12_chain_31 (by decide) ?_
        exact sy_iret fx X hr hlk h dX12_chain_32
      · have h := sy_t c12 h
        refine lv_iconst (v := 0) hx hb dX12_chain_27 (by decide) ?_
        refine lv_goto (tgt := 32) hx hb dX12_chain_28 (by decide) ?_
        exact sy_iret fx X hr hlk h dX12_chain_32
  · have h := sy_t c4 h
    refine lv_ldc (v := (-1000000001)) hx hb hown (hts _ wm_457) dX12_chain_8 ?_
    exact sy_iret fx X hr hlk h dX12_chain_10
