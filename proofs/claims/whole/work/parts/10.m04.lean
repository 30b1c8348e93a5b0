def m_Sky_rest (k : Nat) (p0 : Int32) (S : sy_St) : sy_R := sy_g (sy_in p0 6) <| sy_g (sy_in p0 6) <| sy_b (sy_up S (k + 1) p0.toNatClampNeg (sy_max 0 ((S (k + 1) p0.toNatClampNeg) - 1))) fun S3 => sy_g (sy_in p0 6) <| sy_b (sy_up S3 (k + 3) p0.toNatClampNeg 0) fun S5 => some (0, S5)
theorem cv_Sky_rest : sy_cV RX10 yX10_rest cX10_rest 2 none 1 := ⟨wm_523, wm_524, wm_17, wm_525, by decide +kernel⟩
set_option maxRecDepth 100000 in
set_option maxHeartbeats 40000000 in
theorem c_Sky_rest (l : Launch) {E : sy_ET} {k : Nat} (ht : sy_OSky E k) {p0 : Int32} {S S' : sy_St} {r : Int32} (h : m_Sky_rest k p0 S = some (r, S')) : sy_MV l yX10_rest cX10_rest 2 1 30 [.ref (sy_ad E k), .int p0] E S S' := by
  refine sy_MV_of RX10 pn_10 rfl (Nat.le_of_ble_eq_true rfl) (fun p e s m args below meth c A ls fx hr hlk hA X hl => ?_)
  have hx := fx.1
  have hb := fx.2.1
  have hown := fx.2.2.2.1
  have hts := fx.2.2.2.2
  have hl : lv_has ls 2 [(0, .ref (sy_ad E k)), (1, .int p0)] := hl
  unfold m_Sky_rest at h
  refine lv_aload_n hx hb dX10_rest_0 rfl (lv_at hl 0 rfl) ?_
  refine sy_q9 fx X (sy_OSky_o ht) 1 (by decide) wm_86 (fun _ h9 => h9) rfl (sy_OSky_r1 ht) dX10_rest_1 ?_
  refine lv_iload_n hx hb dX10_rest_4 rfl (lv_at hl 1 rfl) ?_
  refine lv_iconst (v := 0) hx hb dX10_rest_5 (by decide) ?_
  refine lv_aload_n hx hb dX10_rest_6 rfl (lv_at hl 0 rfl) ?_
  refine sy_q9 fx X (sy_OSky_o ht) 1 (by decide) wm_86 (fun _ h9 => h9) rfl (sy_OSky_r1 ht) dX10_rest_7 ?_
  refine lv_iload_n hx hb dX10_rest_10 rfl (lv_at hl 1 rfl) ?_
  obtain ⟨g1, h⟩ := sy_g_e h
  refine sy_iald fx X (sy_OSky_a1 ht) g1 dX10_rest_11 ?_
  refine lv_iconst (v := 1) hx hb dX10_rest_12 (by decide) ?_
  refine lv_isub hx hb dX10_rest_13 ?_
  refine va_mmax (rest := [.int p0, .ref (sy_ad E (k + 1))]) hx hb (fx.2.2.1.trans hl.1.symm) hown (hts _ wm_412) (hts _ wm_413) (hts _ wm_414) (hts _ wm_415) (Nat.le_of_ble_eq_true rfl) (Nat.le_of_ble_eq_true rfl) (Nat.le_refl _) (Nat.le_refl _) dX10_rest_14 ?_
  obtain ⟨g2, h⟩ := sy_g_e h
  obtain ⟨S3, hS3, h⟩ := sy_b_e h
  refine sy_iast fx X (sy_OSky_a1 ht) g2 hS3 dX10_rest_17 (fun H locs X => ?_)
  refine lv_aload_n hx hb dX10_rest_18 rfl (lv_at hl 0 rfl) ?_
  refine sy_q9 fx X (sy_OSky_o ht) 3 (by decide) wm_88 (fun _ h9 => h9) rfl (sy_OSky_r3 ht) dX10_rest_19 ?_
  refine lv_iload_n hx hb dX10_rest_22 rfl (lv_at hl 1 rfl) ?_
  refine lv_iconst (v := 0) hx hb dX10_rest_23 (by decide) ?_
  obtain ⟨g4, h⟩ := sy_g_e h
  obtain ⟨S5, hS5, h⟩ := sy_b_e h
  refine sy_iast fx X (sy_OSky_a3 ht) g4 hS5 dX10_rest_24 (fun H locs X => ?_)
  exact sy_vret fx X hr hlk h dX10_rest_25
def m_Sky_endHour_B25 (k : Nat) (kk25 : Int32 → sy_St → sy_R) (y2 : Int32) (S : sy_St) : sy_R := if (S 1 8) ≤ y2 then (sy_b (sy_up S k 5 ((S k 5) + 1)) fun S4 => some (0, S4)) else (sy_c (m_Sky_isHolding k y2 S) fun r6 S5 => if r6 = 0 then (sy_c (m_Sky_rest k y2 S5) fun r10 S9 => sy_b (y2 + 1 : Int32) fun x12 => kk25 x12 S9) else (sy_c (m_Sky_bear k y2 S5) fun r14 S13 => sy_b (y2 + 1 : Int32) fun x16 => kk25 x16 S13))
def m_Sky_endHour (k : Nat) (p0 : Int32) (S : sy_St) : sy_R := sy_b (sy_up S k 6 p0) fun S1 => sy_b (sy_up S1 k 7 (sy_min 999999999 ((S1 k 7) + (S1 k 6)))) fun S2 => sy_fix (fun _ _ => none) (m_Sky_endHour_B25 k) sy_F 0 S2
theorem cv_Sky_endHour : sy_cV RX10 yX10_endHour cX10_endHour 3 none 1 := ⟨wm_510, wm_511, wm_17, wm_512, by decide +kernel⟩
set_option maxRecDepth 100000 in
set_option maxHeartbeats 40000000 in
theorem c_Sky_endHour (l : Launch) {E : sy_ET} {k : Nat} (ht : sy_OSky E k) {p0 : Int32} {S S' : sy_St} {r : Int32} (h : m_Sky_endHour k p0 S = some (r, S')) : sy_MV l yX10_endHour cX10_endHour 3 2 51 [.ref (sy_ad E k), .int p0] E S S' := by
  refine sy_MV_of RX10 pn_10 rfl (Nat.le_of_ble_eq_true rfl) (fun p e s m args below meth c A ls fx hr hlk hA X hl => ?_)
  have hx := fx.1
  have hb := fx.2.1
  have hown := fx.2.2.2.1
  have hts := fx.2.2.2.2
  have hl : lv_has ls 3 [(0, .ref (sy_ad E k)), (1, .int p0)] := hl
  have L_25 : ∀ (n25 : Nat) (y2 : Int32) (S : sy_St) (H : Heap) (locs : List Loc) (ls : Array Slot), sy_Wd E A s S H locs → lv_has ls 3 [(0, .ref (sy_ad E k)), (2, .int y2)] → sy_fix (fun _ _ => none) (m_Sky_endHour_B25 k) n25 y2 S = some (r, S') → W p l e (sy_rm 2 51) s m args below meth c H locs 0 0 (MQ below (sy_Qv E A S') args s 0 0 A) (F0 m 25 ls []) := by
    intro n25
    induction n25 with
    | zero => intro y2 S H locs ls X hl h; have h9 : (none : sy_R) = some (r, S') := h; cases h9
    | succ n25 ih25 =>
      intro y2 S H locs ls X hl h
      have h : m_Sky_endHour_B25 k (sy_fix (fun _ _ => none) (m_Sky_endHour_B25 k) n25) y2 S = some (r, S') := h
      unfold m_Sky_endHour_B25 at h
      refine lv_iload_n hx hb dX10_endHour_25 rfl (lv_at hl 1 rfl) ?_
      refine lv_aload_n hx hb dX10_endHour_26 rfl (lv_at hl 0 rfl) ?_
      refine sy_q9 fx X (sy_OSky_o ht) 0 (by decide) wm_90 (fun _ h9 => h9) rfl (sy_OSky_r0 ht) dX10_endHour_27 ?_
      refine sy_g3 fx X (sy_OEdge_o (sy_OSky_a0 ht)) 8 (by decide) wm_100 (fun _ h9 => h9) rfl dX10_endHour_30 ?_
      refine lv_icmp_ge (tgt := 63) hx hb dX10_endHour_33 (by decide) (fun c3 => ?_) (fun c3 => ?_)
      · have h := sy_t c3 h
        refine lv_aload_n hx hb dX10_endHour_63 rfl (lv_at hl 0 rfl) ?_
        refine lv_dup hx hb dX10_endHour_64 rfl ?_
        refine sy_g9 fx X (sy_OSky_o ht) 5 (by decide) wm_95 (fun _ h9 => h9) rfl dX10_endHour_65 ?_
        refine lv_iconst (v := 1) hx hb dX10_endHour_68 (by decide) ?_
        refine lv_iadd hx hb dX10_endHour_69 ?_
        obtain ⟨S4, hS4, h⟩ := sy_b_e h
        refine sy_p9 fx X (sy_OSky_o ht) 5 (by decide) wm_95 (fun _ h9 => h9) rfl (ty := .int) (by decide +kernel) rfl rfl hS4 sy_s9_5 dX10_endHour_70 (fun H locs X => ?_)
        exact sy_vret fx X hr hlk h dX10_endHour_73
      · have h := sy_f c3 h
        refine lv_aload_n hx hb dX10_endHour_36 rfl (lv_at hl 0 rfl) ?_
        refine lv_iload_n hx hb dX10_endHour_37 rfl (lv_at hl 1 rfl) ?_
        obtain ⟨r6, S5, hc7, h⟩ := sy_c_e h
        refine sy_vi (rest := []) fx hA X hl.1 (sy_OSky_o ht) (sy_en9 (sy_OSky_o ht).2) rfl (c_Sky_isHolding l ht hc7) cv_Sky_isHolding wm_514 ⟨Nat.le_of_ble_eq_true rfl, Nat.le_of_ble_eq_true rfl, Nat.le_refl _, Nat.le_refl _⟩ rfl rfl (Nat.le_of_ble_eq_true rfl) dX10_endHour_38 (fun H locs X => ?_)
        refine lv_if_eq (tgt := 52) hx hb dX10_endHour_41 (by decide) (fun c8 => ?_) (fun c8 => ?_)
        · have h := sy_t c8 h
          refine lv_aload_n hx hb dX10_endHour_52 rfl (lv_at hl 0 rfl) ?_
          refine lv_iload_n hx hb dX10_endHour_53 rfl (lv_at hl 1 rfl) ?_
          obtain ⟨r10, S9, hc11, h⟩ := sy_c_e h
          refine sy_vv (rest := []) fx hA X hl.1 (sy_OSky_o ht) (sy_en9 (sy_OSky_o ht).2) rfl (c_Sky_rest l ht hc11) cv_Sky_rest wm_522 ⟨Nat.le_of_ble_eq_true rfl, Nat.le_of_ble_eq_true rfl, Nat.le_refl _, Nat.le_refl _⟩ rfl rfl (Nat.le_of_ble_eq_true rfl) dX10_endHour_54 (fun H locs X => ?_)
          obtain ⟨x12, hx12, h⟩ := sy_b_e h
          refine lv_iinc (v := x12) (lv' := [(2, .int x12), (0, .ref (sy_ad E k))]) hx hb dX10_endHour_57 hl (k := 1) rfl (by rw [hx12]; rfl) (by decide) rfl (fun ls hl => ?_)
          refine lv_goto (tgt := 25) hx hb dX10_endHour_60 (by decide) ?_
          exact ih25 x12 S9 _ _ _ X (lv_sub hl [1, 0] rfl) h
        · have h := sy_f c8 h
          refine lv_aload_n hx hb dX10_endHour_44 rfl (lv_at hl 0 rfl) ?_
          refine lv_iload_n hx hb dX10_endHour_45 rfl (lv_at hl 1 rfl) ?_
          obtain ⟨r14, S13, hc15, h⟩ := sy_c_e h
          refine sy_vv (rest := []) fx hA X hl.1 (sy_OSky_o ht) (sy_en9 (sy_OSky_o ht).2) rfl (c_Sky_bear l ht hc15) cv_Sky_bear wm_518 ⟨Nat.le_of_ble_eq_true rfl, Nat.le_of_ble_eq_true rfl, Nat.le_refl _, Nat.le_refl _⟩ rfl rfl (Nat.le_of_ble_eq_true rfl) dX10_endHour_46 (fun H locs X => ?_)
          refine lv_goto (tgt := 57) hx hb dX10_endHour_49 (by decide) ?_
          obtain ⟨x16, hx16, h⟩ := sy_b_e h
          refine lv_iinc (v := x16) (lv' := [(2, .int x16), (0, .ref (sy_ad E k))]) hx hb dX10_endHour_57 hl (k := 1) rfl (by rw [hx16]; rfl) (by decide) rfl (fun ls hl => ?_)
          refine lv_goto (tgt := 25) hx hb dX10_endHour_60 (by decide) ?_
          exact ih25 x16 S13 _ _ _ X (lv_sub hl [1, 0] rfl) h
  unfold m_Sky_endHour at h
  refine lv_aload_n hx hb dX10_endHour_0 rfl (lv_at hl 0 rfl) ?_
  refine lv_iload_n hx hb dX10_endHour_1 rfl (lv_at hl 1 rfl) ?_
  obtain ⟨S1, hS1, h⟩ := sy_b_e h
  refine sy_p9 fx X (sy_OSky_o ht) 6 (by decide) wm_96 (fun _ h9 => h9) rfl (ty := .int) (by decide +kernel) rfl rfl hS1 sy_s9_6 dX10_endHour_2 (fun H locs X => ?_)
  refine lv_aload_n hx hb dX10_endHour_5 rfl (lv_at hl 0 rfl) ?_
  refine lv_ldc (v := 999999999) hx hb hown (hts _ wm_513) dX10_endHour_6 ?_
  refine lv_aload_n hx hb dX10_endHour_8 rfl (lv_at hl 0 rfl) ?_
  refine sy_g9 fx X (sy_OSky_o ht) 7 (by decide) wm_97 (fun _ h9 => h9) rfl dX10_endHour_9 ?_
  refine lv_aload_n hx hb dX10_endHour_12 rfl (lv_at hl 0 rfl) ?_
  refine sy_g9 fx X (sy_OSky_o ht) 6 (by decide) wm_96 (fun _ h9 => h9) rfl dX10_endHour_13 ?_
  refine lv_iadd hx hb dX10_endHour_16 ?_
  refine va_mmin (rest := [.ref (sy_ad E k)]) hx hb (fx.2.2.1.trans hl.1.symm) hown (hts _ wm_507) (hts _ wm_492) (hts _ wm_414) (hts _ wm_493) (Nat.le_of_ble_eq_true rfl) (Nat.le_of_ble_eq_true rfl) (Nat.le_refl _) (Nat.le_refl _) dX10_endHour_17 ?_
  obtain ⟨S2, hS2, h⟩ := sy_b_e h
  refine sy_p9 fx X (sy_OSky_o ht) 7 (by decide) wm_97 (fun _ h9 => h9) rfl (ty := .int) (by decide +kernel) rfl rfl hS2 sy_s9_7 dX10_endHour_20 (fun H locs X => ?_)
  refine lv_iconst (v := 0) hx hb dX10_endHour_23 (by decide) ?_
  refine lv_istore_n (lv' := [(2, .int 0), (0, .ref (sy_ad E k)), (1, .int p0)]) hx hb dX10_endHour_24 rfl hl (by decide) rfl (fun ls hl => ?_)
  exact L_25 sy_F 0 S2 _ _ _ X (lv_sub hl [1, 0] rfl) h
def m_Rows_standBehind_s (p0 : Int32) (p1 : Int32) (p2 : Int32) (S : sy_St) : sy_R := sy_b (p0 + 1 : Int32) fun x1 => sy_g (sy_in x1 5) <| sy_g (sy_in p0 5) <| sy_c (m_Sky_copyFrom (10 + 5 * x1.toNatClampNeg) (10 + 5 * p0.toNatClampNeg) S) fun r5 S4 => sy_c (m_Sky_handTo (10 + 5 * x1.toNatClampNeg) p1 S4) fun r8 S7 => sy_c (m_Sky_endHour (10 + 5 * x1.toNatClampNeg) p2 S7) fun r11 S10 => some (0, S10)
set_option maxRecDepth 100000 in
set_option maxHeartbeats 40000000 in
theorem c_Rows_standBehind_s (l : Launch) {E : sy_ET} (ht : sy_OSeen E) {p0 : Int32} {p1 : Int32} {p2 : Int32} {S S' : sy_St} {r : Int32} (h : m_Rows_standBehind_s p0 p1 p2 S = some (r, S')) : sy_MV l yX7_standBehind cX7_standBehind 5 3 81 [.ref (sy_ad E 374), .int p0, .int p1, .int p2] E S S' := by
  refine sy_MV_of RX7 pn_7 rfl (Nat.le_of_ble_eq_true rfl) (fun p e s m args below meth c A ls fx hr hlk hA X hl => ?_)
  have hx := fx.1
  have hb := fx.2.1
  have hown := fx.2.2.2.1
  have hts := fx.2.2.2.2
  have hl : lv_has ls 5 [(0, .ref (sy_ad E 374)), (1, .int p0), (2, .int p1), (3, .int p2)] := hl
  unfold m_Rows_standBehind_s at h
  refine lv_aload_n hx hb dX7_standBehind_0 rfl (lv_at hl 0 rfl) ?_
  refine sy_q7 fx X (sy_OSeen_o ht) 1 (by decide) wm_130 (fun _ h9 => h9) rfl (sy_OSeen_r1 ht) dX7_standBehind_1 ?_
  refine lv_iload_n hx hb dX7_standBehind_4 rfl (lv_at hl 1 rfl) ?_
  refine lv_iconst (v := 1) hx hb dX7_standBehind_5 (by decide) ?_
  refine lv_iadd hx hb dX7_standBehind_6 ?_
  obtain ⟨x1, hx1, h⟩ := sy_b_e h
  refine sy_top hx1 ?_
  obtain ⟨g2, h⟩ := sy_g_e h
  refine sy_aald fx X (sy_OSeen_a1 ht).1 g2 ((sy_OSeen_a1 ht).2 _ (sy_in_lt g2)).1 dX7_standBehind_7 ?_
  refine lv_astore (lv' := [(4, .ref (sy_ad E (10 + 5 * x1.toNatClampNeg))), (0, .ref (sy_ad E 374)), (1, .int p0), (2, .int p1), (3, .int p2)]) hx hb dX7_standBehind_8 hl (by decide) rfl (fun ls hl => ?_)
  refine lv_aload hx hb dX7_standBehind_10 (lv_at hl 0 rfl) ?_
  refine lv_aload_n hx hb dX7_standBehind_12 rfl (lv_at hl 1 rfl) ?_
  refine sy_q7 fx X (sy_OSeen_o ht) 1 (by decide) wm_130 (fun _ h9 => h9) rfl (sy_OSeen_r1 ht) dX7_standBehind_13 ?_
  refine lv_iload_n hx hb dX7_standBehind_16 rfl (lv_at hl 2 rfl) ?_
  obtain ⟨g3, h⟩ := sy_g_e h
  refine sy_aald fx X (sy_OSeen_a1 ht).1 g3 ((sy_OSeen_a1 ht).2 _ (sy_in_lt g3)).1 dX7_standBehind_17 ?_
  obtain ⟨r5, S4, hc6, h⟩ := sy_c_e h
  refine sy_vv (rest := []) fx hA X hl.1 (sy_OSky_o ((sy_OSeen_a1 ht).2 _ (sy_in_lt g2)).2) (sy_en9 (sy_OSky_o ((sy_OSeen_a1 ht).2 _ (sy_in_lt g2)).2).2) rfl (c_Sky_copyFrom l ((sy_OSeen_a1 ht).2 _ (sy_in_lt g2)).2 ((sy_OSeen_a1 ht).2 _ (sy_in_lt g3)).2 hc6) cv_Sky_copyFrom wm_703 ⟨Nat.le_of_ble_eq_true rfl, Nat.le_of_ble_eq_true rfl, Nat.le_refl _, Nat.le_refl _⟩ rfl rfl (Nat.le_of_ble_eq_true rfl) dX7_standBehind_18 (fun H locs X => ?_)
  refine lv_aload hx hb dX7_standBehind_21 (lv_at hl 0 rfl) ?_
  refine lv_iload_n hx hb dX7_standBehind_23 rfl (lv_at hl 3 rfl) ?_
  obtain ⟨r8, S7, hc9, h⟩ := sy_c_e h
  refine sy_vv (rest := []) fx hA X hl.1 (sy_OSky_o ((sy_OSeen_a1 ht).2 _ (sy_in_lt g2)).2) (sy_en9 (sy_OSky_o ((sy_OSeen_a1 ht).2 _ (sy_in_lt g2)).2).2) rfl (c_Sky_handTo l ((sy_OSeen_a1 ht).2 _ (sy_in_lt g2)).2 hc9) cv_Sky_handTo wm_745 ⟨Nat.le_of_ble_eq_true rfl, Nat.le_of_ble_eq_true rfl, Nat.le_refl _, Nat.le_refl _⟩ rfl rfl (Nat.le_of_ble_eq_true rfl) dX7_standBehind_24 (fun H locs X => ?_)
  refine lv_aload hx hb dX7_standBehind_27 (lv_at hl 0 rfl) ?_
  refine lv_iload_n hx hb dX7_standBehind_29 rfl (lv_at hl 4 rfl) ?_
  obtain ⟨r11, S10, hc12, h⟩ := sy_c_e h
  refine sy_vv (rest := []) fx hA X hl.1 (sy_OSky_o ((sy_OSeen_a1 ht).2 _ (sy_in_lt g2)).2) (sy_en9 (sy_OSky_o ((sy_OSeen_a1 ht).2 _ (sy_in_lt g2)).2).2) rfl (c_Sky_endHour l ((sy_OSeen_a1 ht).2 _ (sy_in_lt g2)).2 hc12) cv_Sky_endHour wm_746 ⟨Nat.le_of_ble_eq_true rfl, Nat.le_of_ble_eq_true rfl, Nat.le_refl _, Nat.le_refl _⟩ rfl rfl (Nat.le_of_ble_eq_true rfl) dX7_standBehind_30 (fun H locs X => ?_)
  exact sy_vret fx X hr hlk h dX7_standBehind_33
theorem cw_RX7_46_Seen_endRow : sy_cU RX7 RX8 "SkyTurns$Rows" 46 ⟨"SkyTurns$Rows", "endRow", "()V"⟩ yX8_endRow cX8_endRow 3 none 0 := ⟨wm_710, wm_711, wm_712, wm_713, wm_40, wm_714, by decide +kernel⟩
theorem cw_RX7_58_Seen_fits : sy_cU RX7 RX8 "SkyTurns$Rows" 58 ⟨"SkyTurns$Rows", "fits", "(III)Z"⟩ yX8_fits cX8_fits 4 (some .boolean) 3 := ⟨wm_732, wm_733, wm_734, wm_735, wm_40, wm_736, by decide +kernel⟩
theorem cw_RX7_62_Rows_standBehind_s : sy_cU RX7 RX8 "SkyTurns$Rows" 62 ⟨"SkyTurns$Rows", "standBehind", "(III)V"⟩ yX7_standBehind cX7_standBehind 5 none 3 := ⟨wm_740, wm_741, wm_742, wm_743, wm_124, wm_744, by decide +kernel⟩
theorem cw_RX7_42_Rows_goOn_s : sy_cU RX7 RX8 "SkyTurns$Rows" 42 ⟨"SkyTurns$Rows", "goOn", "(I)V"⟩ yX7_goOn cX7_goOn 4 none 1 := ⟨wm_704, wm_705, wm_706, wm_707, wm_124, wm_708, by decide +kernel⟩
def m_Rows_goOn_s_J86 (rc : Int32 → sy_St → sy_R) (kk15 : Int32 → Int32 → sy_St → sy_R) (y1 : Int32) (y2 : Int32) (S : sy_St) : sy_R := sy_c (rc (y1 + 1) S) fun r25 S24 => sy_g (sy_in y2 6) <| sy_g (sy_in y2 6) <| sy_b (sy_up S24 376 y2.toNatClampNeg ((S24 376 y2.toNatClampNeg) - 1)) fun S29 => sy_b (y2 + 1 : Int32) fun x30 => kk15 y1 x30 S29
def m_Rows_goOn_s_B15 (rc : Int32 → sy_St → sy_R) (kk15 : Int32 → Int32 → sy_St → sy_R) (y1 : Int32) (y2 : Int32) (S : sy_St) : sy_R := if (S 1 8) ≤ y2 then (some (0, S)) else (sy_g (sy_in y1 5) <| sy_c (m_Sky_lowBehind (10 + 5 * y1.toNatClampNeg) y2 (-1) 0 S) fun r8 S7 => sy_c (m_Seen_fits y1 y2 r8 S7) fun r11 S10 => if r11 = 0 then (sy_b (y2 + 1 : Int32) fun x23 => kk15 y1 x23 S10) else (sy_g (sy_in y1 5) <| sy_b (sy_up S10 375 y1.toNatClampNeg y2) fun S15 => sy_g (sy_in y2 6) <| sy_g (sy_in y2 6) <| sy_b (sy_up S15 376 y2.toNatClampNeg ((S15 376 y2.toNatClampNeg) + 1)) fun S18 => if (S18 374 4) ≤ (y1 + 1) then (m_Rows_goOn_s_J86 rc kk15 y1 y2 S18) else (sy_c (m_Rows_standBehind_s y1 y2 r8 S18) fun r21 S20 => m_Rows_goOn_s_J86 rc kk15 y1 y2 S20)))
def m_Rows_goOn_s_R (rc : Int32 → sy_St → sy_R) (p0 : Int32) (S : sy_St) : sy_R := if p0 < (S 374 4) then (sy_fix (fun _ _ _ => none) (m_Rows_goOn_s_B15 rc) sy_F p0 0 S) else (sy_c (m_Seen_endRow S) fun r3 S2 => some (0, S2))
def m_Rows_goOn_s (p0 : Int32) (S : sy_St) : sy_R := sy_fix (fun _ _ => none) m_Rows_goOn_s_R 8 p0 S
set_option maxRecDepth 100000 in
set_option maxHeartbeats 40000000 in
theorem c_Rows_goOn_s_R (l : Launch) {E : sy_ET} (ht : sy_OSeen E) : ∀ (nr : Nat) {p0 : Int32} {S S' : sy_St} {r : Int32}, sy_fix (fun _ _ => none) m_Rows_goOn_s_R nr p0 S = some (r, S') → sy_MV l yX7_goOn cX7_goOn 4 (4 + nr) (105 + nr * 23) [.ref (sy_ad E 374), .int p0] E S S' := by
 intro nr
 induction nr with
 | zero => intro p0 S S' r h; have h9 : (none : sy_R) = some (r, S') := h; cases h9
 | succ nr ih =>
  intro p0 S S' r h
  have h : m_Rows_goOn_s_R (sy_fix (fun _ _ => none) m_Rows_goOn_s_R nr) p0 S = some (r, S') := h
  refine sy_MV_of RX7 pn_7 rfl (Nat.le_of_ble_eq_true rfl) (fun p e s m args below meth c A ls fx hr hlk hA X hl => ?_)
  have hx := fx.1
  have hb := fx.2.1
  have hown := fx.2.2.2.1
  have hts := fx.2.2.2.2
  have hl : lv_has ls 4 [(0, .ref (sy_ad E 374)), (1, .int p0)] := hl
  have L_15 : ∀ (n15 : Nat) (y1 y2 : Int32) (S : sy_St) (H : Heap) (locs : List Loc) (ls : Array Slot), sy_Wd E A s S H locs → lv_has ls 4 [(0, .ref (sy_ad E 374)), (1, .int y1), (2, .int y2)] → sy_fix (fun _ _ _ => none) (m_Rows_goOn_s_B15 (sy_fix (fun _ _ => none) m_Rows_goOn_s_R nr)) n15 y1 y2 S = some (r, S') → W p l e (sy_rm (4 + (nr + 1)) (105 + (nr + 1) * 23)) s m args below meth c H locs 0 0 (MQ below (sy_Qv E A S') args s 0 0 A) (F0 m 15 ls []) := by
    intro n15
    induction n15 with
    | zero => intro y1 y2 S H locs ls X hl h; have h9 : (none : sy_R) = some (r, S') := h; cases h9
    | succ n15 ih15 =>
      have J_86 : ∀ (y1 y2 : Int32) (S : sy_St) (H : Heap) (locs : List Loc) (ls : Array Slot), sy_Wd E A s S H locs → lv_has ls 4 [(0, .ref (sy_ad E 374)), (1, .int y1), (2, .int y2)] → m_Rows_goOn_s_J86 (sy_fix (fun _ _ => none) m_Rows_goOn_s_R nr) (sy_fix (fun _ _ _ => none) (m_Rows_goOn_s_B15 (sy_fix (fun _ _ => none) m_Rows_goOn_s_R nr)) n15) y1 y2 S = some (r, S') → W p l e (sy_rm (4 + (nr + 1)) (105 + (nr + 1) * 23)) s m args below meth c H locs 0 0 (MQ below (sy_Qv E A S') args s 0 0 A) (F0 m 86 ls []) := by
        intro y1 y2 S H locs ls X hl h
        unfold m_Rows_goOn_s_J86 at h
        refine lv_aload_n hx hb dX7_goOn_86 rfl (lv_at hl 0 rfl) ?_
        refine lv_iload_n hx hb dX7_goOn_87 rfl (lv_at hl 1 rfl) ?_
        refine lv_iconst (v := 1) hx hb dX7_goOn_88 (by decide) ?_
        refine lv_iadd hx hb dX7_goOn_89 ?_
        obtain ⟨r25, S24, hc26, h⟩ := sy_c_e h
        refine sy_uv (rest := []) fx hA X hl.1 (sy_OSeen_o ht) (sy_en7 (sy_OSeen_o ht).2) rfl (ih hc26) (sy_cuU hts cw_RX7_42_Rows_goOn_s rfl ⟨by show (4 + nr) + 1 ≤ 4 + (nr + 1); omega, by show 8 + (4 + 11) + (105 + nr * 23) ≤ 105 + (nr + 1) * 23; omega⟩) ⟨Nat.le_refl _, Nat.le_refl _⟩ rfl rfl (Nat.le_of_ble_eq_true rfl) dX7_goOn_90 (fun H locs X => ?_)
        refine lv_aload_n hx hb dX7_goOn_93 rfl (lv_at hl 0 rfl) ?_
        refine sy_q7 fx X (sy_OSeen_o ht) 3 (by decide) wm_128 (fun _ h9 => h9) rfl (sy_OSeen_r3 ht) dX7_goOn_94 ?_
        refine lv_iload_n hx hb dX7_goOn_97 rfl (lv_at hl 2 rfl) ?_
        refine lv_dup2_11 hx hb dX7_goOn_98 rfl rfl ?_
        obtain ⟨g27, h⟩ := sy_g_e h
        refine sy_iald fx X (sy_OSeen_a3 ht) g27 dX7_goOn_99 ?_
        refine lv_iconst (v := 1) hx hb dX7_goOn_100 (by decide) ?_
        refine lv_isub hx hb dX7_goOn_101 ?_
        obtain ⟨g28, h⟩ := sy_g_e h
        obtain ⟨S29, hS29, h⟩ := sy_b_e h
        refine sy_iast fx X (sy_OSeen_a3 ht) g28 hS29 dX7_goOn_102 (fun H locs X => ?_)
        obtain ⟨x30, hx30, h⟩ := sy_b_e h
        refine lv_iinc (v := x30) (lv' := [(2, .int x30), (0, .ref (sy_ad E 374)), (1, .int y1)]) hx hb dX7_goOn_103 hl (k := 2) rfl (by rw [hx30]; rfl) (by decide) rfl (fun ls hl => ?_)
        refine lv_goto (tgt := 15) hx hb dX7_goOn_106 (by decide) ?_
        exact ih15 y1 x30 S29 _ _ _ X (lv_sub hl [1, 2, 0] rfl) h
      intro y1 y2 S H locs ls X hl h
      have h : m_Rows_goOn_s_B15 (sy_fix (fun _ _ => none) m_Rows_goOn_s_R nr) (sy_fix (fun _ _ _ => none) (m_Rows_goOn_s_B15 (sy_fix (fun _ _ => none) m_Rows_goOn_s_R nr)) n15) y1 y2 S = some (r, S') := h
      unfold m_Rows_goOn_s_B15 at h
      refine lv_iload_n hx hb dX7_goOn_15 rfl (lv_at hl 2 rfl) ?_
      refine lv_aload_n hx hb dX7_goOn_16 rfl (lv_at hl 0 rfl) ?_
      refine sy_q7 fx X (sy_OSeen_o ht) 0 (by decide) wm_129 (fun _ h9 => h9) rfl (sy_OSeen_r0 ht) dX7_goOn_17 ?_
      refine sy_g3 fx X (sy_OEdge_o (sy_OSeen_a0 ht)) 8 (by decide) wm_709 (fun _ h9 => h9) rfl dX7_goOn_20 ?_
      refine lv_icmp_ge (tgt := 109) hx hb dX7_goOn_23 (by decide) (fun c5 => ?_) (fun c5 => ?_)
      · have h := sy_t c5 h
        exact sy_vret fx X hr hlk h dX7_goOn_109
      · have h := sy_f c5 h
        refine lv_aload_n hx hb dX7_goOn_26 rfl (lv_at hl 0 rfl) ?_
        refine sy_q7 fx X (sy_OSeen_o ht) 1 (by decide) wm_130 (fun _ h9 => h9) rfl (sy_OSeen_r1 ht) dX7_goOn_27 ?_
        refine lv_iload_n hx hb dX7_goOn_30 rfl (lv_at hl 1 rfl) ?_
        obtain ⟨g6, h⟩ := sy_g_e h
        refine sy_aald fx X (sy_OSeen_a1 ht).1 g6 ((sy_OSeen_a1 ht).2 _ (sy_in_lt g6)).1 dX7_goOn_31 ?_
        refine lv_iload_n hx hb dX7_goOn_32 rfl (lv_at hl 2 rfl) ?_
        refine lv_iconst (v := (-1)) hx hb dX7_goOn_33 (by decide) ?_
        refine lv_iconst (v := 0) hx hb dX7_goOn_34 (by decide) ?_
        obtain ⟨r8, S7, hc9, h⟩ := sy_c_e h
        refine sy_vi (rest := []) fx hA X hl.1 (sy_OSky_o ((sy_OSeen_a1 ht).2 _ (sy_in_lt g6)).2) (sy_en9 (sy_OSky_o ((sy_OSeen_a1 ht).2 _ (sy_in_lt g6)).2).2) rfl (c_Sky_lowBehind l ((sy_OSeen_a1 ht).2 _ (sy_in_lt g6)).2 hc9) cv_Sky_lowBehind wm_731 ⟨by show 2 + 1 ≤ 4 + (nr + 1); omega, by show 8 + (8 + 11) + 54 ≤ 105 + (nr + 1) * 23; omega, Nat.le_refl _, Nat.le_refl _⟩ rfl rfl (Nat.le_of_ble_eq_true rfl) dX7_goOn_35 (fun H locs X => ?_)
        refine lv_istore_n (lv' := [(3, .int r8), (0, .ref (sy_ad E 374)), (1, .int y1), (2, .int y2)]) hx hb dX7_goOn_38 rfl hl (by decide) rfl (fun ls hl => ?_)
        refine lv_aload_n hx hb dX7_goOn_39 rfl (lv_at hl 1 rfl) ?_
        refine lv_iload_n hx hb dX7_goOn_40 rfl (lv_at hl 2 rfl) ?_
        refine lv_iload_n hx hb dX7_goOn_41 rfl (lv_at hl 3 rfl) ?_
        refine lv_iload_n hx hb dX7_goOn_42 rfl (lv_at hl 0 rfl) ?_
        obtain ⟨r11, S10, hc12, h⟩ := sy_c_e h
        refine sy_ui (rest := []) fx hA X hl.1 (sy_OSeen_o ht) (sy_en7 (sy_OSeen_o ht).2) rfl (c_Seen_fits l ht hc12) (sy_cuA hts cw_RX7_58_Seen_fits X.1.2.2.2.2.2.2.2 ⟨by show 0 + 1 ≤ 4 + (nr + 1); omega, by show 8 + (4 + 11) + 0 ≤ 105 + (nr + 1) * 23; omega⟩) ⟨Nat.le_refl _, Nat.le_refl _⟩ rfl rfl (Nat.le_of_ble_eq_true rfl) dX7_goOn_43 (fun H locs X => ?_)
        refine lv_if_ne (tgt := 52) hx hb dX7_goOn_46 (by decide) (fun c13 => ?_) (fun c13 => ?_)
        · have h := sy_f c13 h
          refine lv_aload_n hx hb dX7_goOn_52 rfl (lv_at hl 1 rfl) ?_
          refine sy_q7 fx X (sy_OSeen_o ht) 2 (by decide) wm_127 (fun _ h9 => h9) rfl (sy_OSeen_r2 ht) dX7_goOn_53 ?_
          refine lv_iload_n hx hb dX7_goOn_56 rfl (lv_at hl 2 rfl) ?_
          refine lv_iload_n hx hb dX7_goOn_57 rfl (lv_at hl 3 rfl) ?_
          obtain ⟨g14, h⟩ := sy_g_e h
          obtain ⟨S15, hS15, h⟩ := sy_b_e h
          refine sy_iast fx X (sy_OSeen_a2 ht) g14 hS15 dX7_goOn_58 (fun H locs X => ?_)
          refine lv_aload_n hx hb dX7_goOn_59 rfl (lv_at hl 1 rfl) ?_
          refine sy_q7 fx X (sy_OSeen_o ht) 3 (by decide) wm_128 (fun _ h9 => h9) rfl (sy_OSeen_r3 ht) dX7_goOn_60 ?_
          refine lv_iload_n hx hb dX7_goOn_63 rfl (lv_at hl 3 rfl) ?_
          refine lv_dup2_11 hx hb dX7_goOn_64 rfl rfl ?_
          obtain ⟨g16, h⟩ := sy_g_e h
          refine sy_iald fx X (sy_OSeen_a3 ht) g16 dX7_goOn_65 ?_
          refine lv_iconst (v := 1) hx hb dX7_goOn_66 (by decide) ?_
          refine lv_iadd hx hb dX7_goOn_67 ?_
          obtain ⟨g17, h⟩ := sy_g_e h
          obtain ⟨S18, hS18, h⟩ := sy_b_e h
          refine sy_iast fx X (sy_OSeen_a3 ht) g17 hS18 dX7_goOn_68 (fun H locs X => ?_)
          refine lv_iload_n hx hb dX7_goOn_69 rfl (lv_at hl 2 rfl) ?_
          refine lv_iconst (v := 1) hx hb dX7_goOn_70 (by decide) ?_
          refine lv_iadd hx hb dX7_goOn_71 ?_
          refine lv_aload_n hx hb dX7_goOn_72 rfl (lv_at hl 1 rfl) ?_
          refine sy_g7 fx X (sy_OSeen_o ht) 4 (by decide) wm_702 (fun _ h9 => h9) rfl dX7_goOn_73 ?_
          refine lv_icmp_ge (tgt := 86) hx hb dX7_goOn_76 (by decide) (fun c19 => ?_) (fun c19 => ?_)
          · have h := sy_t c19 h
            exact J_86 y1 y2 S18 _ _ _ X (lv_sub hl [1, 2, 3] rfl) h
          · have h := sy_f c19 h
            refine lv_aload_n hx hb dX7_goOn_79 rfl (lv_at hl 1 rfl) ?_
            refine lv_iload_n hx hb dX7_goOn_80 rfl (lv_at hl 2 rfl) ?_
            refine lv_iload_n hx hb dX7_goOn_81 rfl (lv_at hl 3 rfl) ?_
            refine lv_iload_n hx hb dX7_goOn_82 rfl (lv_at hl 0 rfl) ?_
            obtain ⟨r21, S20, hc22, h⟩ := sy_c_e h
            refine sy_uv (rest := []) fx hA X hl.1 (sy_OSeen_o ht) (sy_en7 (sy_OSeen_o ht).2) rfl (c_Rows_standBehind_s l ht hc22) (sy_cuU hts cw_RX7_62_Rows_standBehind_s rfl ⟨by show 3 + 1 ≤ 4 + (nr + 1); omega, by show 8 + (5 + 11) + 81 ≤ 105 + (nr + 1) * 23; omega⟩) ⟨Nat.le_refl _, Nat.le_refl _⟩ rfl rfl (Nat.le_of_ble_eq_true rfl) dX7_goOn_83 (fun H locs X => ?_)
            exact J_86 y1 y2 S20 _ _ _ X (lv_sub hl [1, 2, 3] rfl) h
        · have h := sy_t c13 h
          refine lv_goto (tgt := 103) hx hb dX7_goOn_49 (by decide) ?_
          obtain ⟨x23, hx23, h⟩ := sy_b_e h
          refine lv_iinc (v := x23) (lv' := [(2, .int x23), (3, .int r8), (0, .ref (sy_ad E 374)), (1, .int y1)]) hx hb dX7_goOn_103 hl (k := 3) rfl (by rw [hx23]; rfl) (by decide) rfl (fun ls hl => ?_)
          refine lv_goto (tgt := 15) hx hb dX7_goOn_106 (by decide) ?_
          exact ih15 y1 x23 S10 _ _ _ X (lv_sub hl [2, 3, 0] rfl) h
  unfold m_Rows_goOn_s_R at h
  refine lv_iload_n hx hb dX7_goOn_0 rfl (lv_at hl 1 rfl) ?_
  refine lv_aload_n hx hb dX7_goOn_1 rfl (lv_at hl 0 rfl) ?_
  refine sy_g7 fx X (sy_OSeen_o ht) 4 (by decide) wm_702 (fun _ h9 => h9) rfl dX7_goOn_2 ?_
  refine lv_icmp_lt (tgt := 13) hx hb dX7_goOn_5 (by decide) (fun c1 => ?_) (fun c1 => ?_)
  · have h := sy_t c1 h
    refine lv_iconst (v := 0) hx hb dX7_goOn_13 (by decide) ?_
    refine lv_istore_n (lv' := [(2, .int 0), (0, .ref (sy_ad E 374)), (1, .int p0)]) hx hb dX7_goOn_14 rfl hl (by decide) rfl (fun ls hl => ?_)
    exact L_15 sy_F p0 0 S _ _ _ X (lv_sub hl [1, 2, 0] rfl) h
  · have h := sy_f c1 h
    refine lv_aload_n hx hb dX7_goOn_8 rfl (lv_at hl 0 rfl) ?_
    obtain ⟨r3, S2, hc4, h⟩ := sy_c_e h
    refine sy_uv (rest := []) fx hA X hl.1 (sy_OSeen_o ht) (sy_en7 (sy_OSeen_o ht).2) rfl (c_Seen_endRow l ht hc4) (sy_cuA hts cw_RX7_46_Seen_endRow X.1.2.2.2.2.2.2.1 ⟨by show 1 + 1 ≤ 4 + (nr + 1); omega, by show 8 + (3 + 11) + 60 ≤ 105 + (nr + 1) * 23; omega⟩) ⟨Nat.le_refl _, Nat.le_refl _⟩ rfl rfl (Nat.le_of_ble_eq_true rfl) dX7_goOn_9 (fun H locs X => ?_)
    exact sy_vret fx X hr hlk h dX7_goOn_12
theorem c_Rows_goOn_s (l : Launch) {E : sy_ET} (ht : sy_OSeen E) {p0 : Int32} {S S' : sy_St} {r : Int32} (h : m_Rows_goOn_s p0 S = some (r, S')) : sy_MV l yX7_goOn cX7_goOn 4 12 289 [.ref (sy_ad E 374), .int p0] E S S' := c_Rows_goOn_s_R l ht 8 h
def m_Shift_endRow_B4 (kk4 : Int32 → Int32 → sy_St → sy_R) (y1 : Int32) (y2 : Int32) (S : sy_St) : sy_R := if 6 ≤ y2 then (if y1 < (S 370 6) then (sy_b (sy_up S 370 6 y1) fun S3 => sy_b (sy_cp S3 371 373 0 0 5) fun S4 => some (0, S4)) else (some (0, S))) else (sy_g (sy_in y2 6) <| sy_b (sy_max y1 (S 372 y2.toNatClampNeg) : Int32) fun x6 => sy_b (y2 + 1 : Int32) fun x7 => kk4 x6 x7 S)
def m_Shift_endRow (S : sy_St) : sy_R := sy_fix (fun _ _ _ => none) (m_Shift_endRow_B4) sy_F 0 0 S
set_option maxRecDepth 100000 in
set_option maxHeartbeats 40000000 in
theorem c_Shift_endRow (l : Launch) {E : sy_ET} (ht : sy_OShift E) {S S' : sy_St} {r : Int32} (h : m_Shift_endRow S = some (r, S')) : sy_MV l yX9_endRow cX9_endRow 3 1 60 [.ref (sy_ad E 370)] E S S' := by
  refine sy_MV_of RX9 pn_9 rfl (Nat.le_of_ble_eq_true rfl) (fun p e s m args below meth c A ls fx hr hlk hA X hl => ?_)
  have hx := fx.1
  have hb := fx.2.1
  have hown := fx.2.2.2.1
  have hts := fx.2.2.2.2
  have hl : lv_has ls 3 [(0, .ref (sy_ad E 370))] := hl
  have L_4 : ∀ (n4 : Nat) (y1 y2 : Int32) (S : sy_St) (H : Heap) (locs : List Loc) (ls : Array Slot), sy_Wd E A s S H locs → lv_has ls 3 [(0, .ref (sy_ad E 370)), (1, .int y1), (2, .int y2)] → sy_fix (fun _ _ _ => none) (m_Shift_endRow_B4) n4 y1 y2 S = some (r, S') → W p l e (sy_rm 1 60) s m args below meth c H locs 0 0 (MQ below (sy_Qv E A S') args s 0 0 A) (F0 m 4 ls []) := by
    intro n4
    induction n4 with
    | zero => intro y1 y2 S H locs ls X hl h; have h9 : (none : sy_R) = some (r, S') := h; cases h9
    | succ n4 ih4 =>
      intro y1 y2 S H locs ls X hl h
      have h : m_Shift_endRow_B4 (sy_fix (fun _ _ _ => none) (m_Shift_endRow_B4) n4) y1 y2 S = some (r, S') := h
      unfold m_Shift_endRow_B4 at h
      refine lv_iload_n hx hb dX9_endRow_4 rfl (lv_at hl 2 rfl) ?_
      refine lv_bipush (v := 6) hx hb dX9_endRow_5 (by decide) ?_
      refine lv_icmp_ge (tgt := 27) hx hb dX9_endRow_7 (by decide) (fun c1 => ?_) (fun c1 => ?_)
      · have h := sy_t c1 h
        refine lv_iload_n hx hb dX9_endRow_27 rfl (lv_at hl 1 rfl) ?_
        refine lv_aload_n hx hb dX9_endRow_28 rfl (lv_at hl 0 rfl) ?_
        refine sy_g8 fx X (sy_OShift_o ht) 6 (by decide) wm_694 (fun _ h9 => h9) rfl dX9_endRow_29 ?_
        refine lv_icmp_lt (tgt := 36) hx hb dX9_endRow_32 (by decide) (fun c2 => ?_) (fun c2 => ?_)
        · have h := sy_t c2 h
          refine lv_aload_n hx hb dX9_endRow_36 rfl (lv_at hl 0 rfl) ?_
          refine lv_iload_n hx hb dX9_endRow_37 rfl (lv_at hl 1 rfl) ?_
          obtain ⟨S3, hS3, h⟩ := sy_b_e h
          refine sy_p8 fx X (sy_OShift_o ht) 6 (by decide) wm_694 (fun _ h9 => h9) rfl (ty := .int) (by decide +kernel) rfl rfl hS3 sy_s8_6 dX9_endRow_38 (fun H locs X => ?_)
          refine lv_aload_n hx hb dX9_endRow_41 rfl (lv_at hl 0 rfl) ?_
          refine sy_q8 fx X (sy_OShift_o ht) 2 (by decide) wm_728 (u_same (hts _ wm_729)) rfl (sy_OShift_r2 ht) dX9_endRow_42 ?_
          refine lv_iconst (v := 0) hx hb dX9_endRow_45 (by decide) ?_
          refine lv_aload_n hx hb dX9_endRow_46 rfl (lv_at hl 0 rfl) ?_
          refine sy_q8 fx X (sy_OShift_o ht) 5 (by decide) wm_121 (fun _ h9 => h9) rfl (sy_OShift_r5 ht) dX9_endRow_47 ?_
          refine lv_iconst (v := 0) hx hb dX9_endRow_50 (by decide) ?_
          refine lv_iconst (v := 5) hx hb dX9_endRow_51 (by decide) ?_
          obtain ⟨S4, hS4, h⟩ := sy_b_e h
          refine sy_cpy (rest := []) fx X hl.1 (sy_OShift_a2 ht) (sy_OShift_a5 ht) wm_730 wm_304 wm_305 wm_306 (by decide) (by decide) (by decide) (by decide) (by decide) (Nat.le_of_ble_eq_true rfl) (by decide) hS4 dX9_endRow_52 (fun H locs X => ?_)
          exact sy_vret fx X hr hlk h dX9_endRow_55
        · have h := sy_f c2 h
          exact sy_vret fx X hr hlk h dX9_endRow_35
      · have h := sy_f c1 h
        refine lv_iload_n hx hb dX9_endRow_10 rfl (lv_at hl 1 rfl) ?_
        refine lv_aload_n hx hb dX9_endRow_11 rfl (lv_at hl 0 rfl) ?_
        refine sy_q8 fx X (sy_OShift_o ht) 3 (by decide) wm_725 (u_same (hts _ wm_726)) rfl (sy_OShift_r3 ht) dX9_endRow_12 ?_
        refine lv_iload_n hx hb dX9_endRow_15 rfl (lv_at hl 2 rfl) ?_
        obtain ⟨g5, h⟩ := sy_g_e h
        refine sy_iald fx X (sy_OShift_a3 ht) g5 dX9_endRow_16 ?_
        refine va_mmax (rest := []) hx hb (fx.2.2.1.trans hl.1.symm) hown (hts _ wm_727) (hts _ wm_413) (hts _ wm_414) (hts _ wm_415) (Nat.le_of_ble_eq_true rfl) (Nat.le_of_ble_eq_true rfl) (Nat.le_refl _) (Nat.le_refl _) dX9_endRow_17 ?_
        obtain ⟨x6, hx6, h⟩ := sy_b_e h
        refine sy_top hx6 ?_
        refine lv_istore_n (lv' := [(1, .int x6), (0, .ref (sy_ad E 370)), (2, .int y2)]) hx hb dX9_endRow_20 rfl hl (by decide) rfl (fun ls hl => ?_)
        obtain ⟨x7, hx7, h⟩ := sy_b_e h
        refine lv_iinc (v := x7) (lv' := [(2, .int x7), (1, .int x6), (0, .ref (sy_ad E 370))]) hx hb dX9_endRow_21 hl (k := 2) rfl (by rw [hx7]; rfl) (by decide) rfl (fun ls hl => ?_)
        refine lv_goto (tgt := 4) hx hb dX9_endRow_24 (by decide) ?_
        exact ih4 x6 x7 S _ _ _ X (lv_sub hl [2, 1, 0] rfl) h
  unfold m_Shift_endRow at h
  refine lv_iconst (v := 0) hx hb dX9_endRow_0 (by decide) ?_
  refine lv_istore_n (lv' := [(1, .int 0), (0, .ref (sy_ad E 370))]) hx hb dX9_endRow_1 rfl hl (by decide) rfl (fun ls hl => ?_)
  refine lv_iconst (v := 0) hx hb dX9_endRow_2 (by decide) ?_
  refine lv_istore_n (lv' := [(2, .int 0), (1, .int 0), (0, .ref (sy_ad E 370))]) hx hb dX9_endRow_3 rfl hl (by decide) rfl (fun ls hl => ?_)
  exact L_4 sy_F 0 0 S _ _ _ X (lv_sub hl [2, 1, 0] rfl) h
def m_Shift_fits (p0 : Int32) (p1 : Int32) (p2 : Int32) (S : sy_St) : sy_R := if p2 ≤ (S 370 8) then (sy_b (sy_up S 370 7 (sy_max (S 370 7) (p0 + 1))) fun S2 => sy_g (sy_in p1 6) <| if (S2 370 6) ≤ ((S2 372 p1.toNatClampNeg) + 1) then (some (0, S2)) else (some (1, S2))) else (some (0, S))
set_option maxRecDepth 100000 in
set_option maxHeartbeats 40000000 in
theorem c_Shift_fits (l : Launch) {E : sy_ET} (ht : sy_OShift E) {p0 : Int32} {p1 : Int32} {p2 : Int32} {S S' : sy_St} {r : Int32} (h : m_Shift_fits p0 p1 p2 S = some (r, S')) : sy_MI l yX9_fits cX9_fits 4 (some .boolean) 1 30 [.ref (sy_ad E 370), .int p0, .int p1, .int p2] E S r S' := by
  refine sy_MI_of RX9 pn_9 rfl (Nat.le_of_ble_eq_true rfl) (fun p e s m args below meth c A ls fx hr hlk hA X hl => ?_)
  have hx := fx.1
  have hb := fx.2.1
  have hown := fx.2.2.2.1
  have hts := fx.2.2.2.2
  have hl : lv_has ls 4 [(0, .ref (sy_ad E 370)), (1, .int p0), (2, .int p1), (3, .int p2)] := hl
  unfold m_Shift_fits at h
  refine lv_iload_n hx hb dX9_fits_0 rfl (lv_at hl 3 rfl) ?_
  refine lv_aload_n hx hb dX9_fits_1 rfl (lv_at hl 0 rfl) ?_
  refine sy_g8 fx X (sy_OShift_o ht) 8 (by decide) wm_693 (fun _ h9 => h9) rfl dX9_fits_2 ?_
  refine lv_icmp_le (tgt := 10) hx hb dX9_fits_5 (by decide) (fun c1 => ?_) (fun c1 => ?_)
  · have h := sy_t c1 h
    refine lv_aload_n hx hb dX9_fits_10 rfl (lv_at hl 0 rfl) ?_
    refine lv_aload_n hx hb dX9_fits_11 rfl (lv_at hl 0 rfl) ?_
    refine sy_g8 fx X (sy_OShift_o ht) 7 (by decide) wm_695 (fun _ h9 => h9) rfl dX9_fits_12 ?_
    refine lv_iload_n hx hb dX9_fits_15 rfl (lv_at hl 1 rfl) ?_
    refine lv_iconst (v := 1) hx hb dX9_fits_16 (by decide) ?_
    refine lv_iadd hx hb dX9_fits_17 ?_
    refine va_mmax (rest := [.ref (sy_ad E 370)]) hx hb (fx.2.2.1.trans hl.1.symm) hown (hts _ wm_727) (hts _ wm_413) (hts _ wm_414) (hts _ wm_415) (Nat.le_of_ble_eq_true rfl) (Nat.le_of_ble_eq_true rfl) (Nat.le_refl _) (Nat.le_refl _) dX9_fits_18 ?_
    obtain ⟨S2, hS2, h⟩ := sy_b_e h
    refine sy_p8 fx X (sy_OShift_o ht) 7 (by decide) wm_695 (fun _ h9 => h9) rfl (ty := .int) (by decide +kernel) rfl rfl hS2 sy_s8_7 dX9_fits_21 (fun H locs X => ?_)
    refine lv_aload_n hx hb dX9_fits_24 rfl (lv_at hl 0 rfl) ?_
    refine sy_q8 fx X (sy_OShift_o ht) 3 (by decide) wm_725 (u_same (hts _ wm_726)) rfl (sy_OShift_r3 ht) dX9_fits_25 ?_
    refine lv_iload_n hx hb dX9_fits_28 rfl (lv_at hl 2 rfl) ?_
    obtain ⟨g3, h⟩ := sy_g_e h
    refine sy_iald fx X (sy_OShift_a3 ht) g3 dX9_fits_29 ?_
    refine lv_iconst (v := 1) hx hb dX9_fits_30 (by decide) ?_
    refine lv_iadd hx hb dX9_fits_31 ?_
    refine lv_aload_n hx hb dX9_fits_32 rfl (lv_at hl 0 rfl) ?_
    refine sy_g8 fx X (sy_OShift_o ht) 6 (by decide) wm_694 (fun _ h9 => h9) rfl dX9_fits_33 ?_
    refine lv_icmp_ge (tgt := 43) hx hb dX9_fits_36 (by decide) (fun c4 => ?_) (fun c4 => ?_)
    · have h := sy_t c4 h
      refine lv_iconst (v := 0) hx hb dX9_fits_43 (by decide) ?_
      exact sy_zret fx X hr hlk (Or.inl rfl) h dX9_fits_44
    · have h := sy_f c4 h
      refine lv_iconst (v := 1) hx hb dX9_fits_39 (by decide) ?_
      refine lv_goto (tgt := 44) hx hb dX9_fits_40 (by decide) ?_
      exact sy_zret fx X hr hlk (Or.inr rfl) h dX9_fits_44
  · have h := sy_f c1 h
    refine lv_iconst (v := 0) hx hb dX9_fits_8 (by decide) ?_
    exact sy_zret fx X hr hlk (Or.inl rfl) h dX9_fits_9
def m_Rows_standBehind_h (p0 : Int32) (p1 : Int32) (p2 : Int32) (S : sy_St) : sy_R := sy_b (p0 + 1 : Int32) fun x1 => sy_g (sy_in x1 5) <| sy_g (sy_in p0 5) <| sy_c (m_Sky_copyFrom (10 + 5 * x1.toNatClampNeg) (10 + 5 * p0.toNatClampNeg) S) fun r5 S4 => sy_c (m_Sky_handTo (10 + 5 * x1.toNatClampNeg) p1 S4) fun r8 S7 => sy_c (m_Sky_endHour (10 + 5 * x1.toNatClampNeg) p2 S7) fun r11 S10 => some (0, S10)
set_option maxRecDepth 100000 in
set_option maxHeartbeats 40000000 in
theorem c_Rows_standBehind_h (l : Launch) {E : sy_ET} (ht : sy_OShift E) {p0 : Int32} {p1 : Int32} {p2 : Int32} {S S' : sy_St} {r : Int32} (h : m_Rows_standBehind_h p0 p1 p2 S = some (r, S')) : sy_MV l yX7_standBehind cX7_standBehind 5 3 81 [.ref (sy_ad E 370), .int p0, .int p1, .int p2] E S S' := by
  refine sy_MV_of RX7 pn_7 rfl (Nat.le_of_ble_eq_true rfl) (fun p e s m args below meth c A ls fx hr hlk hA X hl => ?_)
  have hx := fx.1
  have hb := fx.2.1
  have hown := fx.2.2.2.1
  have hts := fx.2.2.2.2
  have hl : lv_has ls 5 [(0, .ref (sy_ad E 370)), (1, .int p0), (2, .int p1), (3, .int p2)] := hl
  unfold m_Rows_standBehind_h at h
  refine lv_aload_n hx hb dX7_standBehind_0 rfl (lv_at hl 0 rfl) ?_
  refine sy_q8 fx X (sy_OShift_o ht) 1 (by decide) wm_130 (fun _ h9 => h9) rfl (sy_OShift_r1 ht) dX7_standBehind_1 ?_
  refine lv_iload_n hx hb dX7_standBehind_4 rfl (lv_at hl 1 rfl) ?_
  refine lv_iconst (v := 1) hx hb dX7_standBehind_5 (by decide) ?_
  refine lv_iadd hx hb dX7_standBehind_6 ?_
  obtain ⟨x1, hx1, h⟩ := sy_b_e h
  refine sy_top hx1 ?_
  obtain ⟨g2, h⟩ := sy_g_e h
  refine sy_aald fx X (sy_OShift_a1 ht).1 g2 ((sy_OShift_a1 ht).2 _ (sy_in_lt g2)).1 dX7_standBehind_7 ?_
  refine lv_astore (lv' := [(4, .ref (sy_ad E (10 + 5 * x1.toNatClampNeg))), (0, .ref (sy_ad E 370)), (1, .int p0), (2, .int p1), (3, .int p2)]) hx hb dX7_standBehind_8 hl (by decide) rfl (fun ls hl => ?_)
  refine lv_aload hx hb dX7_standBehind_10 (lv_at hl 0 rfl) ?_
  refine lv_aload_n hx hb dX7_standBehind_12 rfl (lv_at hl 1 rfl) ?_
  refine sy_q8 fx X (sy_OShift_o ht) 1 (by decide) wm_130 (fun _ h9 => h9) rfl (sy_OShift_r1 ht) dX7_standBehind_13 ?_
  refine lv_iload_n hx hb dX7_standBehind_16 rfl (lv_at hl 2 rfl) ?_
  obtain ⟨g3, h⟩ := sy_g_e h
  refine sy_aald fx X (sy_OShift_a1 ht).1 g3 ((sy_OShift_a1 ht).2 _ (sy_in_lt g3)).1 dX7_standBehind_17 ?_
  obtain ⟨r5, S4, hc6, h⟩ := sy_c_e h
  refine sy_vv (rest := []) fx hA X hl.1 (sy_OSky_o ((sy_OShift_a1 ht).2 _ (sy_in_lt g2)).2) (sy_en9 (sy_OSky_o ((sy_OShift_a1 ht).2 _ (sy_in_lt g2)).2).2) rfl (c_Sky_copyFrom l ((sy_OShift_a1 ht).2 _ (sy_in_lt g2)).2 ((sy_OShift_a1 ht).2 _ (sy_in_lt g3)).2 hc6) cv_Sky_copyFrom wm_703 ⟨Nat.le_of_ble_eq_true rfl, Nat.le_of_ble_eq_true rfl, Nat.le_refl _, Nat.le_refl _⟩ rfl rfl (Nat.le_of_ble_eq_true rfl) dX7_standBehind_18 (fun H locs X => ?_)
  refine lv_aload hx hb dX7_standBehind_21 (lv_at hl 0 rfl) ?_
  refine lv_iload_n hx hb dX7_standBehind_23 rfl (lv_at hl 3 rfl) ?_
  obtain ⟨r8, S7, hc9, h⟩ := sy_c_e h
  refine sy_vv (rest := []) fx hA X hl.1 (sy_OSky_o ((sy_OShift_a1 ht).2 _ (sy_in_lt g2)).2) (sy_en9 (sy_OSky_o ((sy_OShift_a1 ht).2 _ (sy_in_lt g2)).2).2) rfl (c_Sky_handTo l ((sy_OShift_a1 ht).2 _ (sy_in_lt g2)).2 hc9) cv_Sky_handTo wm_745 ⟨Nat.le_of_ble_eq_true rfl, Nat.le_of_ble_eq_true rfl, Nat.le_refl _, Nat.le_refl _⟩ rfl rfl (Nat.le_of_ble_eq_true rfl) dX7_standBehind_24 (fun H locs X => ?_)
  refine lv_aload hx hb dX7_standBehind_27 (lv_at hl 0 rfl) ?_
  refine lv_iload_n hx hb dX7_standBehind_29 rfl (lv_at hl 4 rfl) ?_
  obtain ⟨r11, S10, hc12, h⟩ := sy_c_e h
  refine sy_vv (rest := []) fx hA X hl.1 (sy_OSky_o ((sy_OShift_a1 ht).2 _ (sy_in_lt g2)).2) (sy_en9 (sy_OSky_o ((sy_OShift_a1 ht).2 _ (sy_in_lt g2)).2).2) rfl (c_Sky_endHour l ((sy_OShift_a1 ht).2 _ (sy_in_lt g2)).2 hc12) cv_Sky_endHour wm_746 ⟨Nat.le_of_ble_eq_true rfl, Nat.le_of_ble_eq_true rfl, Nat.le_refl _, Nat.le_refl _⟩ rfl rfl (Nat.le_of_ble_eq_true rfl) dX7_standBehind_30 (fun H locs X => ?_)
  exact sy_vret fx X hr hlk h dX7_standBehind_33
theorem cw_RX7_46_Shift_endRow : sy_cU RX7 RX9 "SkyTurns$Rows" 46 ⟨"SkyTurns$Rows", "endRow", "()V"⟩ yX9_endRow cX9_endRow 3 none 0 := ⟨wm_710, wm_711, wm_722, wm_723, wm_36, wm_724, by decide +kernel⟩
theorem cw_RX7_58_Shift_fits : sy_cU RX7 RX9 "SkyTurns$Rows" 58 ⟨"SkyTurns$Rows", "fits", "(III)Z"⟩ yX9_fits cX9_fits 4 (some .boolean) 3 := ⟨wm_732, wm_733, wm_737, wm_738, wm_36, wm_739, by decide +kernel⟩
theorem cw_RX7_62_Rows_standBehind_h : sy_cU RX7 RX9 "SkyTurns$Rows" 62 ⟨"SkyTurns$Rows", "standBehind", "(III)V"⟩ yX7_standBehind cX7_standBehind 5 none 3 := ⟨wm_740, wm_741, wm_747, wm_743, wm_124, wm_744, by decide +kernel⟩
theorem cw_RX7_42_Rows_goOn_h : sy_cU RX7 RX9 "SkyTurns$Rows" 42 ⟨"SkyTurns$Rows", "goOn", "(I)V"⟩ yX7_goOn cX7_goOn 4 none 1 := ⟨wm_704, wm_705, wm_748, wm_707, wm_124, wm_708, by decide +kernel⟩
def m_Rows_goOn_h_J86 (rc : Int32 → sy_St → sy_R) (kk15 : Int32 → Int32 → sy_St → sy_R) (y1 : Int32) (y2 : Int32) (S : sy_St) : sy_R := sy_c (rc (y1 + 1) S) fun r25 S24 => sy_g (sy_in y2 6) <| sy_g (sy_in y2 6) <| sy_b (sy_up S24 372 y2.toNatClampNeg ((S24 372 y2.toNatClampNeg) - 1)) fun S29 => sy_b (y2 + 1 : Int32) fun x30 => kk15 y1 x30 S29
def m_Rows_goOn_h_B15 (rc : Int32 → sy_St → sy_R) (kk15 : Int32 → Int32 → sy_St → sy_R) (y1 : Int32) (y2 : Int32) (S : sy_St) : sy_R := if (S 1 8) ≤ y2 then (some (0, S)) else (sy_g (sy_in y1 5) <| sy_c (m_Sky_lowBehind (10 + 5 * y1.toNatClampNeg) y2 (-1) 0 S) fun r8 S7 => sy_c (m_Shift_fits y1 y2 r8 S7) fun r11 S10 => if r11 = 0 then (sy_b (y2 + 1 : Int32) fun x23 => kk15 y1 x23 S10) else (sy_g (sy_in y1 5) <| sy_b (sy_up S10 371 y1.toNatClampNeg y2) fun S15 => sy_g (sy_in y2 6) <| sy_g (sy_in y2 6) <| sy_b (sy_up S15 372 y2.toNatClampNeg ((S15 372 y2.toNatClampNeg) + 1)) fun S18 => if (S18 370 4) ≤ (y1 + 1) then (m_Rows_goOn_h_J86 rc kk15 y1 y2 S18) else (sy_c (m_Rows_standBehind_h y1 y2 r8 S18) fun r21 S20 => m_Rows_goOn_h_J86 rc kk15 y1 y2 S20)))
def m_Rows_goOn_h_R (rc : Int32 → sy_St → sy_R) (p0 : Int32) (S : sy_St) : sy_R := if p0 < (S 370 4) then (sy_fix (fun _ _ _ => none) (m_Rows_goOn_h_B15 rc) sy_F p0 0 S) else (sy_c (m_Shift_endRow S) fun r3 S2 => some (0, S2))
def m_Rows_goOn_h (p0 : Int32) (S : sy_St) : sy_R := sy_fix (fun _ _ => none) m_Rows_goOn_h_R 8 p0 S
set_option maxRecDepth 100000 in
set_option maxHeartbeats 40000000 in
theorem c_Rows_goOn_h_R (l : Launch) {E : sy_ET} (ht : sy_OShift E) : ∀ (nr : Nat) {p0 : Int32} {S S' : sy_St} {r : Int32}, sy_fix (fun _ _ => none) m_Rows_goOn_h_R nr p0 S = some (r, S') → sy_MV l yX7_goOn cX7_goOn 4 (4 + nr) (105 + nr * 23) [.ref (sy_ad E 370), .int p0] E S S' := by
 intro nr
 induction nr with
 | zero => intro p0 S S' r h; have h9 : (none : sy_R) = some (r, S') := h; cases h9
 | succ nr ih =>
  intro p0 S S' r h
  have h : m_Rows_goOn_h_R (sy_fix (fun _ _ => none) m_Rows_goOn_h_R nr) p0 S = some (r, S') := h
  refine sy_MV_of RX7 pn_7 rfl (Nat.le_of_ble_eq_true rfl) (fun p e s m args below meth c A ls fx hr hlk hA X hl => ?_)
  have hx := fx.1
  have hb := fx.2.1
  have hown := fx.2.2.2.1
  have hts := fx.2.2.2.2
  have hl : lv_has ls 4 [(0, .ref (sy_ad E 370)), (1, .int p0)] := hl
  have L_15 : ∀ (n15 : Nat) (y1 y2 : Int32) (S : sy_St) (H : Heap) (locs : List Loc) (ls : Array Slot), sy_Wd E A s S H locs → lv_has ls 4 [(0, .ref (sy_ad E 370)), (1, .int y1), (2, .int y2)] → sy_fix (fun _ _ _ => none) (m_Rows_goOn_h_B15 (sy_fix (fun _ _ => none) m_Rows_goOn_h_R nr)) n15 y1 y2 S = some (r, S') → W p l e (sy_rm (4 + (nr + 1)) (105 + (nr + 1) * 23)) s m args below meth c H locs 0 0 (MQ below (sy_Qv E A S') args s 0 0 A) (F0 m 15 ls []) := by
    intro n15
    induction n15 with
    | zero => intro y1 y2 S H locs ls X hl h; have h9 : (none : sy_R) = some (r, S') := h; cases h9
    | succ n15 ih15 =>
      have J_86 : ∀ (y1 y2 : Int32) (S : sy_St) (H : Heap) (locs : List Loc) (ls : Array Slot), sy_Wd E A s S H locs → lv_has ls 4 [(0, .ref (sy_ad E 370)), (1, .int y1), (2, .int y2)] → m_Rows_goOn_h_J86 (sy_fix (fun _ _ => none) m_Rows_goOn_h_R nr) (sy_fix (fun _ _ _ => none) (m_Rows_goOn_h_B15 (sy_fix (fun _ _ => none) m_Rows_goOn_h_R nr)) n15) y1 y2 S = some (r, S') → W p l e (sy_rm (4 + (nr + 1)) (105 + (nr + 1) * 23)) s m args below meth c H locs 0 0 (MQ below (sy_Qv E A S') args s 0 0 A) (F0 m 86 ls []) := by
        intro y1 y2 S H locs ls X hl h
        unfold m_Rows_goOn_h_J86 at h
        refine lv_aload_n hx hb dX7_goOn_86 rfl (lv_at hl 0 rfl) ?_
        refine lv_iload_n hx hb dX7_goOn_87 rfl (lv_at hl 1 rfl) ?_
        refine lv_iconst (v := 1) hx hb dX7_goOn_88 (by decide) ?_
        refine lv_iadd hx hb dX7_goOn_89 ?_
        obtain ⟨r25, S24, hc26, h⟩ := sy_c_e h
        refine sy_uv (rest := []) fx hA X hl.1 (sy_OShift_o ht) (sy_en8 (sy_OShift_o ht).2) rfl (ih hc26) (sy_cuU hts cw_RX7_42_Rows_goOn_h rfl ⟨by show (4 + nr) + 1 ≤ 4 + (nr + 1); omega, by show 8 + (4 + 11) + (105 + nr * 23) ≤ 105 + (nr + 1) * 23; omega⟩) ⟨Nat.le_refl _, Nat.le_refl _⟩ rfl rfl (Nat.le_of_ble_eq_true rfl) dX7_goOn_90 (fun H locs X => ?_)
        refine lv_aload_n hx hb dX7_goOn_93 rfl (lv_at hl 0 rfl) ?_
        refine sy_q8 fx X (sy_OShift_o ht) 3 (by decide) wm_128 (fun _ h9 => h9) rfl (sy_OShift_r3 ht) dX7_goOn_94 ?_
        refine lv_iload_n hx hb dX7_goOn_97 rfl (lv_at hl 2 rfl) ?_
        refine lv_dup2_11 hx hb dX7_goOn_98 rfl rfl ?_
        obtain ⟨g27, h⟩ := sy_g_e h
        refine sy_iald fx X (sy_OShift_a3 ht) g27 dX7_goOn_99 ?_
        refine lv_iconst (v := 1) hx hb dX7_goOn_100 (by decide) ?_
        refine lv_isub hx hb dX7_goOn_101 ?_
        obtain ⟨g28, h⟩ := sy_g_e h
        obtain ⟨S29, hS29, h⟩ := sy_b_e h
        refine sy_iast fx X (sy_OShift_a3 ht) g28 hS29 dX7_goOn_102 (fun H locs X => ?_)
        obtain ⟨x30, hx30, h⟩ := sy_b_e h
        refine lv_iinc (v := x30) (lv' := [(2, .int x30), (0, .ref (sy_ad E 370)), (1, .int y1)]) hx hb dX7_goOn_103 hl (k := 2) rfl (by rw [hx30]; rfl) (by decide) rfl (fun ls hl => ?_)
        refine lv_goto (tgt := 15) hx hb dX7_goOn_106 (by decide) ?_
        exact ih15 y1 x30 S29 _ _ _ X (lv_sub hl [1, 2, 0] rfl) h
      intro y1 y2 S H locs ls X hl h
      have h : m_Rows_goOn_h_B15 (sy_fix (fun _ _ => none) m_Rows_goOn_h_R nr) (sy_fix (fun _ _ _ => none) (m_Rows_goOn_h_B15 (sy_fix (fun _ _ => none) m_Rows_goOn_h_R nr)) n15) y1 y2 S = some (r, S') := h
      unfold m_Rows_goOn_h_B15 at h
      refine lv_iload_n hx hb dX7_goOn_15 rfl (lv_at hl 2 rfl) ?_
      refine lv_aload_n hx hb dX7_goOn_16 rfl (lv_at hl 0 rfl) ?_
      refine sy_q8 fx X (sy_OShift_o ht) 0 (by decide) wm_129 (fun _ h9 => h9) rfl (sy_OShift_r0 ht) dX7_goOn_17 ?_
      refine sy_g3 fx X (sy_OEdge_o (sy_OShift_a0 ht)) 8 (by decide) wm_709 (fun _ h9 => h9) rfl dX7_goOn_20 ?_
      refine lv_icmp_ge (tgt := 109) hx hb dX7_goOn_23 (by decide) (fun c5 => ?_) (fun c5 => ?_)
      · have h := sy_t c5 h
        exact sy_vret fx X hr hlk h dX7_goOn_109
      · have h := sy_f c5 h
        refine lv_aload_n hx hb dX7_goOn_26 rfl (lv_at hl 0 rfl) ?_
        refine sy_q8 fx X (sy_OShift_o ht) 1 (by decide) wm_130 (fun _ h9 => h9) rfl (sy_OShift_r1 ht) dX7_goOn_27 ?_
        refine lv_iload_n hx hb dX7_goOn_30 rfl (lv_at hl 1 rfl) ?_
        obtain ⟨g6, h⟩ := sy_g_e h
        refine sy_aald fx X (sy_OShift_a1 ht).1 g6 ((sy_OShift_a1 ht).2 _ (sy_in_lt g6)).1 dX7_goOn_31 ?_
        refine lv_iload_n hx hb dX7_goOn_32 rfl (lv_at hl 2 rfl) ?_
        refine lv_iconst (v := (-1)) hx hb dX7_goOn_33 (by decide) ?_
        refine lv_iconst (v := 0) hx hb dX7_goOn_34 (by decide) ?_
        obtain ⟨r8, S7, hc9, h⟩ := sy_c_e h
        refine sy_vi (rest := []) fx hA X hl.1 (sy_OSky_o ((sy_OShift_a1 ht).2 _ (sy_in_lt g6)).2) (sy_en9 (sy_OSky_o ((sy_OShift_a1 ht).2 _ (sy_in_lt g6)).2).2) rfl (c_Sky_lowBehind l ((sy_OShift_a1 ht).2 _ (sy_in_lt g6)).2 hc9) cv_Sky_lowBehind wm_731 ⟨by show 2 + 1 ≤ 4 + (nr + 1); omega, by show 8 + (8 + 11) + 54 ≤ 105 + (nr + 1) * 23; omega, Nat.le_refl _, Nat.le_refl _⟩ rfl rfl (Nat.le_of_ble_eq_true rfl) dX7_goOn_35 (fun H locs X => ?_)
        refine lv_istore_n (lv' := [(3, .int r8), (0, .ref (sy_ad E 370)), (1, .int y1), (2, .int y2)]) hx hb dX7_goOn_38 rfl hl (by decide) rfl (fun ls hl => ?_)
        refine lv_aload_n hx hb dX7_goOn_39 rfl (lv_at hl 1 rfl) ?_
        refine lv_iload_n hx hb dX7_goOn_40 rfl (lv_at hl 2 rfl) ?_
        refine lv_iload_n hx hb dX7_goOn_41 rfl (lv_at hl 3 rfl) ?_
        refine lv_iload_n hx hb dX7_goOn_42 rfl (lv_at hl 0 rfl) ?_
        obtain ⟨r11, S10, hc12, h⟩ := sy_c_e h
        refine sy_ui (rest := []) fx hA X hl.1 (sy_OShift_o ht) (sy_en8 (sy_OShift_o ht).2) rfl (c_Shift_fits l ht hc12) (sy_cuA hts cw_RX7_58_Shift_fits X.1.2.2.2.2.2.2.2 ⟨by show 1 + 1 ≤ 4 + (nr + 1); omega, by show 8 + (4 + 11) + 30 ≤ 105 + (nr + 1) * 23; omega⟩) ⟨Nat.le_refl _, Nat.le_refl _⟩ rfl rfl (Nat.le_of_ble_eq_true rfl) dX7_goOn_43 (fun H locs X => ?_)
        refine lv_if_ne (tgt := 52) hx hb dX7_goOn_46 (by decide) (fun c13 => ?_) (fun c13 => ?_)
        · have h := sy_f c13 h
          refine lv_aload_n hx hb dX7_goOn_52 rfl (lv_at hl 1 rfl) ?_
          refine sy_q8 fx X (sy_OShift_o ht) 2 (by decide) wm_127 (fun _ h9 => h9) rfl (sy_OShift_r2 ht) dX7_goOn_53 ?_
          refine lv_iload_n hx hb dX7_goOn_56 rfl (lv_at hl 2 rfl) ?_
          refine lv_iload_n hx hb dX7_goOn_57 rfl (lv_at hl 3 rfl) ?_
          obtain ⟨g14, h⟩ := sy_g_e h
          obtain ⟨S15, hS15, h⟩ := sy_b_e h
          refine sy_iast fx X (sy_OShift_a2 ht) g14 hS15 dX7_goOn_58 (fun H locs X => ?_)
          refine lv_aload_n hx hb dX7_goOn_59 rfl (lv_at hl 1 rfl) ?_
          refine sy_q8 fx X (sy_OShift_o ht) 3 (by decide) wm_128 (fun _ h9 => h9) rfl (sy_OShift_r3 ht) dX7_goOn_60 ?_
          refine lv_iload_n hx hb dX7_goOn_63 rfl (lv_at hl 3 rfl) ?_
          refine lv_dup2_11 hx hb dX7_goOn_64 rfl rfl ?_
          obtain ⟨g16, h⟩ := sy_g_e h
          refine sy_iald fx X (sy_OShift_a3 ht) g16 dX7_goOn_65 ?_
          refine lv_iconst (v := 1) hx hb dX7_goOn_66 (by decide) ?_
          refine lv_iadd hx hb dX7_goOn_67 ?_
          obtain ⟨g17, h⟩ := sy_g_e h
          obtain ⟨S18, hS18, h⟩ := sy_b_e h
          refine sy_iast fx X (sy_OShift_a3 ht) g17 hS18 dX7_goOn_68 (fun H locs X => ?_)
          refine lv_iload_n hx hb dX7_goOn_69 rfl (lv_at hl 2 rfl) ?_
          refine lv_iconst (v := 1) hx hb dX7_goOn_70 (by decide) ?_
          refine lv_iadd hx hb dX7_goOn_71 ?_
          refine lv_aload_n hx hb dX7_goOn_72 rfl (lv_at hl 1 rfl) ?_
          refine sy_g8 fx X (sy_OShift_o ht) 4 (by decide) wm_702 (fun _ h9 => h9) rfl dX7_goOn_73 ?_
          refine lv_icmp_ge (tgt := 86) hx hb dX7_goOn_76 (by decide) (fun c19 => ?_) (fun c19 => ?_)
          · have h := sy_t c19 h
            exact J_86 y1 y2 S18 _ _ _ X (lv_sub hl [1, 2, 3] rfl) h
          · have h := sy_f c19 h
            refine lv_aload_n hx hb dX7_goOn_79 rfl (lv_at hl 1 rfl) ?_
            refine lv_iload_n hx hb dX7_goOn_80 rfl (lv_at hl 2 rfl) ?_
            refine lv_iload_n hx hb dX7_goOn_81 rfl (lv_at hl 3 rfl) ?_
            refine lv_iload_n hx hb dX7_goOn_82 rfl (lv_at hl 0 rfl) ?_
            obtain ⟨r21, S20, hc22, h⟩ := sy_c_e h
            refine sy_uv (rest := []) fx hA X hl.1 (sy_OShift_o ht) (sy_en8 (sy_OShift_o ht).2) rfl (c_Rows_standBehind_h l ht hc22) (sy_cuU hts cw_RX7_62_Rows_standBehind_h rfl ⟨by show 3 + 1 ≤ 4 + (nr + 1); omega, by show 8 + (5 + 11) + 81 ≤ 105 + (nr + 1) * 23; omega⟩) ⟨Nat.le_refl _, Nat.le_refl _⟩ rfl rfl (Nat.le_of_ble_eq_true rfl) dX7_goOn_83 (fun H locs X => ?_)
            exact J_86 y1 y2 S20 _ _ _ X (lv_sub hl [1, 2, 3] rfl) h
        · have h := sy_t c13 h
          refine lv_goto (tgt := 103) hx hb dX7_goOn_49 (by decide) ?_
          obtain ⟨x23, hx23, h⟩ := sy_b_e h
          refine lv_iinc (v := x23) (lv' := [(2, .int x23), (3, .int r8), (0, .ref (sy_ad E 370)), (1, .int y1)]) hx hb dX7_goOn_103 hl (k := 3) rfl (by rw [hx23]; rfl) (by decide) rfl (fun ls hl => ?_)
          refine lv_goto (tgt := 15) hx hb dX7_goOn_106 (by decide) ?_
          exact ih15 y1 x23 S10 _ _ _ X (lv_sub hl [2, 3, 0] rfl) h
  unfold m_Rows_goOn_h_R at h
  refine lv_iload_n hx hb dX7_goOn_0 rfl (lv_at hl 1 rfl) ?_
  refine lv_aload_n hx hb dX7_goOn_1 rfl (lv_at hl 0 rfl) ?_
  refine sy_g8 fx X (sy_OShift_o ht) 4 (by decide) wm_702 (fun _ h9 => h9) rfl dX7_goOn_2 ?_
  refine lv_icmp_lt (tgt := 13) hx hb dX7_goOn_5 (by decide) (fun c1 => ?_) (fun c1 => ?_)
  · have h := sy_t c1 h
    refine lv_iconst (v := 0) hx hb dX7_goOn_13 (by decide) ?_
    refine lv_istore_n (lv' := [(2, .int 0), (0, .ref (sy_ad E 370)), (1, .int p0)]) hx hb dX7_goOn_14 rfl hl (by decide) rfl (fun ls hl => ?_)
    exact L_15 sy_F p0 0 S _ _ _ X (lv_sub hl [1, 2, 0] rfl) h
  · have h := sy_f c1 h
    refine lv_aload_n hx hb dX7_goOn_8 rfl (lv_at hl 0 rfl) ?_
    obtain ⟨r3, S2, hc4, h⟩ := sy_c_e h
    refine sy_uv (rest := []) fx hA X hl.1 (sy_OShift_o ht) (sy_en8 (sy_OShift_o ht).2) rfl (c_Shift_endRow l ht hc4) (sy_cuA hts cw_RX7_46_Shift_endRow X.1.2.2.2.2.2.2.1 ⟨by show 1 + 1 ≤ 4 + (nr + 1); omega, by show 8 + (3 + 11) + 60 ≤ 105 + (nr + 1) * 23; omega⟩) ⟨Nat.le_refl _, Nat.le_refl _⟩ rfl rfl (Nat.le_of_ble_eq_true rfl) dX7_goOn_9 (fun H locs X => ?_)
    exact sy_vret fx X hr hlk h dX7_goOn_12
theorem c_Rows_goOn_h (l : Launch) {E : sy_ET} (ht : sy_OShift E) {p0 : Int32} {S S' : sy_St} {r : Int32} (h : m_Rows_goOn_h p0 S = some (r, S')) : sy_MV l yX7_goOn cX7_goOn 4 12 289 [.ref (sy_ad E 370), .int p0] E S S' := c_Rows_goOn_h_R l ht 8 h
def m_Rows_tryRows_s_B11 (k0 : Nat) (kk11 : Int32 → sy_St → sy_R) (y3 : Int32) (S : sy_St) : sy_R := if 6 ≤ y3 then (sy_c (m_Sky_copyFrom (10 + 5 * (0 : Int32).toNatClampNeg) k0 S) fun r4 S3 => sy_c (m_Rows_goOn_s 0 S3) fun r7 S6 => some (0, S6)) else (sy_g (sy_in y3 6) <| sy_b (sy_up S 376 y3.toNatClampNeg 0) fun S10 => sy_b (y3 + 1 : Int32) fun x11 => kk11 x11 S10)
def m_Rows_tryRows_s (k0 : Nat) (p1 : Int32) (S : sy_St) : sy_R := sy_b (sy_up S 374 4 (sy_min 5 p1)) fun S1 => sy_fix (fun _ _ => none) (m_Rows_tryRows_s_B11 k0) sy_F 0 S1
set_option maxRecDepth 100000 in
set_option maxHeartbeats 40000000 in
theorem c_Rows_tryRows_s (l : Launch) {E : sy_ET} {k0 : Nat} (ht : sy_OSeen E) (h0 : sy_OSky E k0) {p1 : Int32} {S S' : sy_St} {r : Int32} (h : m_Rows_tryRows_s k0 p1 S = some (r, S')) : sy_MV l yX7_tryRows cX7_tryRows 4 13 312 [.ref (sy_ad E 374), .ref (sy_ad E k0), .int p1] E S S' := by
  refine sy_MV_of RX7 pn_7 rfl (Nat.le_of_ble_eq_true rfl) (fun p e s m args below meth c A ls fx hr hlk hA X hl => ?_)
  have hx := fx.1
  have hb := fx.2.1
  have hown := fx.2.2.2.1
  have hts := fx.2.2.2.2
  have hl : lv_has ls 4 [(0, .ref (sy_ad E 374)), (1, .ref (sy_ad E k0)), (2, .int p1)] := hl
  have L_11 : ∀ (n11 : Nat) (y3 : Int32) (S : sy_St) (H : Heap) (locs : List Loc) (ls : Array Slot), sy_Wd E A s S H locs → lv_has ls 4 [(0, .ref (sy_ad E 374)), (1, .ref (sy_ad E k0)), (3, .int y3)] → sy_fix (fun _ _ => none) (m_Rows_tryRows_s_B11 k0) n11 y3 S = some (r, S') → W p l e (sy_rm 13 312) s m args below meth c H locs 0 0 (MQ below (sy_Qv E A S') args s 0 0 A) (F0 m 11 ls []) := by
    intro n11
    induction n11 with
    | zero => intro y3 S H locs ls X hl h; have h9 : (none : sy_R) = some (r, S') := h; cases h9
    | succ n11 ih11 =>
      intro y3 S H locs ls X hl h
      have h : m_Rows_tryRows_s_B11 k0 (sy_fix (fun _ _ => none) (m_Rows_tryRows_s_B11 k0) n11) y3 S = some (r, S') := h
      unfold m_Rows_tryRows_s_B11 at h
      refine lv_iload_n hx hb dX7_tryRows_11 rfl (lv_at hl 2 rfl) ?_
      refine lv_bipush (v := 6) hx hb dX7_tryRows_12 (by decide) ?_
      refine lv_icmp_ge (tgt := 30) hx hb dX7_tryRows_14 (by decide) (fun c2 => ?_) (fun c2 => ?_)
      · have h := sy_t c2 h
        refine lv_aload_n hx hb dX7_tryRows_30 rfl (lv_at hl 0 rfl) ?_
        refine sy_q7 fx X (sy_OSeen_o ht) 1 (by decide) wm_130 (fun _ h9 => h9) rfl (sy_OSeen_r1 ht) dX7_tryRows_31 ?_
        refine lv_iconst (v := 0) hx hb dX7_tryRows_34 (by decide) ?_
        refine sy_aald fx X (sy_OSeen_a1 ht).1 (by decide) ((sy_OSeen_a1 ht).2 _ (sy_in_lt (by decide))).1 dX7_tryRows_35 ?_
        refine lv_aload_n hx hb dX7_tryRows_36 rfl (lv_at hl 1 rfl) ?_
        obtain ⟨r4, S3, hc5, h⟩ := sy_c_e h
        refine sy_vv (rest := []) fx hA X hl.1 (sy_OSky_o ((sy_OSeen_a1 ht).2 _ (sy_in_lt (by decide))).2) (sy_en9 (sy_OSky_o ((sy_OSeen_a1 ht).2 _ (sy_in_lt (by decide))).2).2) rfl (c_Sky_copyFrom l ((sy_OSeen_a1 ht).2 _ (sy_in_lt (by decide))).2 h0 hc5) cv_Sky_copyFrom wm_703 ⟨Nat.le_of_ble_eq_true rfl, Nat.le_of_ble_eq_true rfl, Nat.le_refl _, Nat.le_refl _⟩ rfl rfl (Nat.le_of_ble_eq_true rfl) dX7_tryRows_37 (fun H locs X => ?_)
        refine lv_aload_n hx hb dX7_tryRows_40 rfl (lv_at hl 0 rfl) ?_
        refine lv_iconst (v := 0) hx hb dX7_tryRows_41 (by decide) ?_
        obtain ⟨r7, S6, hc8, h⟩ := sy_c_e h
        refine sy_uv (rest := []) fx hA X hl.1 (sy_OSeen_o ht) (sy_en7 (sy_OSeen_o ht).2) rfl (c_Rows_goOn_s l ht hc8) (sy_cuU hts cw_RX7_42_Rows_goOn_s rfl ⟨Nat.le_of_ble_eq_true rfl, Nat.le_of_ble_eq_true rfl⟩) ⟨Nat.le_refl _, Nat.le_refl _⟩ rfl rfl (Nat.le_of_ble_eq_true rfl) dX7_tryRows_42 (fun H locs X => ?_)
        exact sy_vret fx X hr hlk h dX7_tryRows_45
      · have h := sy_f c2 h
        refine lv_aload_n hx hb dX7_tryRows_17 rfl (lv_at hl 0 rfl) ?_
        refine sy_q7 fx X (sy_OSeen_o ht) 3 (by decide) wm_128 (fun _ h9 => h9) rfl (sy_OSeen_r3 ht) dX7_tryRows_18 ?_
        refine lv_iload_n hx hb dX7_tryRows_21 rfl (lv_at hl 2 rfl) ?_
        refine lv_iconst (v := 0) hx hb dX7_tryRows_22 (by decide) ?_
        obtain ⟨g9, h⟩ := sy_g_e h
        obtain ⟨S10, hS10, h⟩ := sy_b_e h
        refine sy_iast fx X (sy_OSeen_a3 ht) g9 hS10 dX7_tryRows_23 (fun H locs X => ?_)
        obtain ⟨x11, hx11, h⟩ := sy_b_e h
        refine lv_iinc (v := x11) (lv' := [(3, .int x11), (0, .ref (sy_ad E 374)), (1, .ref (sy_ad E k0))]) hx hb dX7_tryRows_24 hl (k := 2) rfl (by rw [hx11]; rfl) (by decide) rfl (fun ls hl => ?_)
        refine lv_goto (tgt := 11) hx hb dX7_tryRows_27 (by decide) ?_
        exact ih11 x11 S10 _ _ _ X (lv_sub hl [1, 2, 0] rfl) h
  unfold m_Rows_tryRows_s at h
  refine lv_aload_n hx hb dX7_tryRows_0 rfl (lv_at hl 0 rfl) ?_
  refine lv_iconst (v := 5) hx hb dX7_tryRows_1 (by decide) ?_
  refine lv_iload_n hx hb dX7_tryRows_2 rfl (lv_at hl 2 rfl) ?_
  refine va_mmin (rest := [.ref (sy_ad E 374)]) hx hb (fx.2.2.1.trans hl.1.symm) hown (hts _ wm_701) (hts _ wm_492) (hts _ wm_414) (hts _ wm_493) (Nat.le_of_ble_eq_true rfl) (Nat.le_of_ble_eq_true rfl) (Nat.le_refl _) (Nat.le_refl _) dX7_tryRows_3 ?_
  obtain ⟨S1, hS1, h⟩ := sy_b_e h
  refine sy_p7 fx X (sy_OSeen_o ht) 4 (by decide) wm_702 (fun _ h9 => h9) rfl (ty := .int) (by decide +kernel) rfl rfl hS1 sy_s7_4 dX7_tryRows_6 (fun H locs X => ?_)
  refine lv_iconst (v := 0) hx hb dX7_tryRows_9 (by decide) ?_
  refine lv_istore_n (lv' := [(3, .int 0), (0, .ref (sy_ad E 374)), (1, .ref (sy_ad E k0)), (2, .int p1)]) hx hb dX7_tryRows_10 rfl hl (by decide) rfl (fun ls hl => ?_)
  exact L_11 sy_F 0 S1 _ _ _ X (lv_sub hl [1, 2, 0] rfl) h
def m_Rows_tryRows_h_B11 (k0 : Nat) (kk11 : Int32 → sy_St → sy_R) (y3 : Int32) (S : sy_St) : sy_R := if 6 ≤ y3 then (sy_c (m_Sky_copyFrom (10 + 5 * (0 : Int32).toNatClampNeg) k0 S) fun r4 S3 => sy_c (m_Rows_goOn_h 0 S3) fun r7 S6 => some (0, S6)) else (sy_g (sy_in y3 6) <| sy_b (sy_up S 372 y3.toNatClampNeg 0) fun S10 => sy_b (y3 + 1 : Int32) fun x11 => kk11 x11 S10)
def m_Rows_tryRows_h (k0 : Nat) (p1 : Int32) (S : sy_St) : sy_R := sy_b (sy_up S 370 4 (sy_min 5 p1)) fun S1 => sy_fix (fun _ _ => none) (m_Rows_tryRows_h_B11 k0) sy_F 0 S1
set_option maxRecDepth 100000 in
set_option maxHeartbeats 40000000 in
theorem c_Rows_tryRows_h (l : Launch) {E : sy_ET} {k0 : Nat} (ht : sy_OShift E) (h0 : sy_OSky E k0) {p1 : Int32} {S S' : sy_St} {r : Int32} (h : m_Rows_tryRows_h k0 p1 S = some (r, S')) : sy_MV l yX7_tryRows cX7_tryRows 4 13 312 [.ref (sy_ad E 370), .ref (sy_ad E k0), .int p1] E S S' := by
  refine sy_MV_of RX7 pn_7 rfl (Nat.le_of_ble_eq_true rfl) (fun p e s m args below meth c A ls fx hr hlk hA X hl => ?_)
  have hx := fx.1
  have hb := fx.2.1
  have hown := fx.2.2.2.1
  have hts := fx.2.2.2.2
  have hl : lv_has ls 4 [(0, .ref (sy_ad E 370)), (1, .ref (sy_ad E k0)), (2, .int p1)] := hl
  have L_11 : ∀ (n11 : Nat) (y3 : Int32) (S : sy_St) (H : Heap) (locs : List Loc) (ls : Array Slot), sy_Wd E A s S H locs → lv_has ls 4 [(0, .ref (sy_ad E 370)), (1, .ref (sy_ad E k0)), (3, .int y3)] → sy_fix (fun _ _ => none) (m_Rows_tryRows_h_B11 k0) n11 y3 S = some (r, S') → W p l e (sy_rm 13 312) s m args below meth c H locs 0 0 (MQ below (sy_Qv E A S') args s 0 0 A) (F0 m 11 ls []) := by
    intro n11
    induction n11 with
    | zero => intro y3 S H locs ls X hl h; have h9 : (none : sy_R) = some (r, S') := h; cases h9
    | succ n11 ih11 =>
      intro y3 S H locs ls X hl h
      have h : m_Rows_tryRows_h_B11 k0 (sy_fix (fun _ _ => none) (m_Rows_tryRows_h_B11 k0) n11) y3 S = some (r, S') := h
      unfold m_Rows_tryRows_h_B11 at h
      refine lv_iload_n hx hb dX7_tryRows_11 rfl (lv_at hl 2 rfl) ?_
      refine lv_bipush (v := 6) hx hb dX7_tryRows_12 (by decide) ?_
      refine lv_icmp_ge (tgt := 30) hx hb dX7_tryRows_14 (by decide) (fun c2 => ?_) (fun c2 => ?_)
      · have h := sy_t c2 h
        refine lv_aload_n hx hb dX7_tryRows_30 rfl (lv_at hl 0 rfl) ?_
        refine sy_q8 fx X (sy_OShift_o ht) 1 (by decide) wm_130 (fun _ h9 => h9) rfl (sy_OShift_r1 ht) dX7_tryRows_31 ?_
        refine lv_iconst (v := 0) hx hb dX7_tryRows_34 (by decide) ?_
        refine sy_aald fx X (sy_OShift_a1 ht).1 (by decide) ((sy_OShift_a1 ht).2 _ (sy_in_lt (by decide))).1 dX7_tryRows_35 ?_
        refine lv_aload_n hx hb dX7_tryRows_36 rfl (lv_at hl 1 rfl) ?_
        obtain ⟨r4, S3, hc5, h⟩ := sy_c_e h
        refine sy_vv (rest := []) fx hA X hl.1 (sy_OSky_o ((sy_OShift_a1 ht).2 _ (sy_in_lt (by decide))).2) (sy_en9 (sy_OSky_o ((sy_OShift_a1 ht).2 _ (sy_in_lt (by decide))).2).2) rfl (c_Sky_copyFrom l ((sy_OShift_a1 ht).2 _ (sy_in_lt (by decide))).2 h0 hc5) cv_Sky_copyFrom wm_703 ⟨Nat.le_of_ble_eq_true rfl, Nat.le_of_ble_eq_true rfl, Nat.le_refl _, Nat.le_refl _⟩ rfl rfl (Nat.le_of_ble_eq_true rfl) dX7_tryRows_37 (fun H locs X => ?_)
        refine lv_aload_n hx hb dX7_tryRows_40 rfl (lv_at hl 0 rfl) ?_
        refine lv_iconst (v := 0) hx hb dX7_tryRows_41 (by decide) ?_
        obtain ⟨r7, S6, hc8, h⟩ := sy_c_e h
        refine sy_uv (rest := []) fx hA X hl.1 (sy_OShift_o ht) (sy_en8 (sy_OShift_o ht).2) rfl (c_Rows_goOn_h l ht hc8) (sy_cuU hts cw_RX7_42_Rows_goOn_h rfl ⟨Nat.le_of_ble_eq_true rfl, Nat.le_of_ble_eq_true rfl⟩) ⟨Nat.le_refl _, Nat.le_refl _⟩ rfl rfl (Nat.le_of_ble_eq_true rfl) dX7_tryRows_42 (fun H locs X => ?_)
        exact sy_vret fx X hr hlk h dX7_tryRows_45
      · have h := sy_f c2 h
        refine lv_aload_n hx hb dX7_tryRows_17 rfl (lv_at hl 0 rfl) ?_
        refine sy_q8 fx X (sy_OShift_o ht) 3 (by decide) wm_128 (fun _ h9 => h9) rfl (sy_OShift_r3 ht) dX7_tryRows_18 ?_
        refine lv_iload_n hx hb dX7_tryRows_21 rfl (lv_at hl 2 rfl) ?_
        refine lv_iconst (v := 0) hx hb dX7_tryRows_22 (by decide) ?_
        obtain ⟨g9, h⟩ := sy_g_e h
        obtain ⟨S10, hS10, h⟩ := sy_b_e h
        refine sy_iast fx X (sy_OShift_a3 ht) g9 hS10 dX7_tryRows_23 (fun H locs X => ?_)
        obtain ⟨x11, hx11, h⟩ := sy_b_e h
        refine lv_iinc (v := x11) (lv' := [(3, .int x11), (0, .ref (sy_ad E 370)), (1, .ref (sy_ad E k0))]) hx hb dX7_tryRows_24 hl (k := 2) rfl (by rw [hx11]; rfl) (by decide) rfl (fun ls hl => ?_)
        refine lv_goto (tgt := 11) hx hb dX7_tryRows_27 (by decide) ?_
        exact ih11 x11 S10 _ _ _ X (lv_sub hl [1, 2, 0] rfl) h
  unfold m_Rows_tryRows_h at h
  refine lv_aload_n hx hb dX7_tryRows_0 rfl (lv_at hl 0 rfl) ?_
  refine lv_iconst (v := 5) hx hb dX7_tryRows_1 (by decide) ?_
  refine lv_iload_n hx hb dX7_tryRows_2 rfl (lv_at hl 2 rfl) ?_
  refine va_mmin (rest := [.ref (sy_ad E 370)]) hx hb (fx.2.2.1.trans hl.1.symm) hown (hts _ wm_701) (hts _ wm_492) (hts _ wm_414) (hts _ wm_493) (Nat.le_of_ble_eq_true rfl) (Nat.le_of_ble_eq_true rfl) (Nat.le_refl _) (Nat.le_refl _) dX7_tryRows_3 ?_
  obtain ⟨S1, hS1, h⟩ := sy_b_e h
  refine sy_p8 fx X (sy_OShift_o ht) 4 (by decide) wm_702 (fun _ h9 => h9) rfl (ty := .int) (by decide +kernel) rfl rfl hS1 sy_s8_4 dX7_tryRows_6 (fun H locs X => ?_)
  refine lv_iconst (v := 0) hx hb dX7_tryRows_9 (by decide) ?_
  refine lv_istore_n (lv' := [(3, .int 0), (0, .ref (sy_ad E 370)), (1, .ref (sy_ad E k0)), (2, .int p1)]) hx hb dX7_tryRows_10 rfl hl (by decide) rfl (fun ls hl => ?_)
  exact L_11 sy_F 0 S1 _ _ _ X (lv_sub hl [1, 2, 0] rfl) h
def m_Seen_add (p0 : Int32) (S : sy_St) : sy_R := if 5 ≤ (S 374 7) then (some (S 374 7, S)) else (sy_g (sy_in (S 374 7) 5) <| sy_b (sy_up S 377 ((S 374 7).toNatClampNeg) p0) fun S3 => sy_b (sy_up S3 374 7 ((S3 374 7) + 1)) fun S4 => some (S4 374 7, S4))
theorem cv_Seen_add : sy_cV RX8 yX8_add cX8_add 2 (some .int) 1 := ⟨wm_973, wm_974, wm_40, wm_975, by decide +kernel⟩
set_option maxRecDepth 100000 in
set_option maxHeartbeats 40000000 in
theorem c_Seen_add (l : Launch) {E : sy_ET} (ht : sy_OSeen E) {p0 : Int32} {S S' : sy_St} {r : Int32} (h : m_Seen_add p0 S = some (r, S')) : sy_MI l yX8_add cX8_add 2 (some .int) 0 0 [.ref (sy_ad E 374), .int p0] E S r S' := by
  refine sy_MI_of RX8 pn_8 rfl (Nat.le_of_ble_eq_true rfl) (fun p e s m args below meth c A ls fx hr hlk hA X hl => ?_)
  have hx := fx.1
  have hb := fx.2.1
  have hown := fx.2.2.2.1
  have hts := fx.2.2.2.2
  have hl : lv_has ls 2 [(0, .ref (sy_ad E 374)), (1, .int p0)] := hl
  unfold m_Seen_add at h
  refine lv_aload_n hx hb dX8_add_0 rfl (lv_at hl 0 rfl) ?_
  refine sy_g7 fx X (sy_OSeen_o ht) 7 (by decide) wm_318 (fun _ h9 => h9) rfl dX8_add_1 ?_
  refine lv_iconst (v := 5) hx hb dX8_add_4 (by decide) ?_
  refine lv_icmp_ge (tgt := 28) hx hb dX8_add_5 (by decide) (fun c1 => ?_) (fun c1 => ?_)
  · have h := sy_t c1 h
    refine lv_aload_n hx hb dX8_add_28 rfl (lv_at hl 0 rfl) ?_
    refine sy_g7 fx X (sy_OSeen_o ht) 7 (by decide) wm_318 (fun _ h9 => h9) rfl dX8_add_29 ?_
    exact sy_iret fx X hr hlk h dX8_add_32
  · have h := sy_f c1 h
    refine lv_aload_n hx hb dX8_add_8 rfl (lv_at hl 0 rfl) ?_
    refine sy_q7 fx X (sy_OSeen_o ht) 5 (by decide) wm_134 (fun _ h9 => h9) rfl (sy_OSeen_r5 ht) dX8_add_9 ?_
    refine lv_aload_n hx hb dX8_add_12 rfl (lv_at hl 0 rfl) ?_
    refine sy_g7 fx X (sy_OSeen_o ht) 7 (by decide) wm_318 (fun _ h9 => h9) rfl dX8_add_13 ?_
    refine lv_iload_n hx hb dX8_add_16 rfl (lv_at hl 1 rfl) ?_
    obtain ⟨g2, h⟩ := sy_g_e h
    obtain ⟨S3, hS3, h⟩ := sy_b_e h
    refine sy_iast fx X (sy_OSeen_a5 ht) g2 hS3 dX8_add_17 (fun H locs X => ?_)
    refine lv_aload_n hx hb dX8_add_18 rfl (lv_at hl 0 rfl) ?_
    refine lv_dup hx hb dX8_add_19 rfl ?_
    refine sy_g7 fx X (sy_OSeen_o ht) 7 (by decide) wm_318 (fun _ h9 => h9) rfl dX8_add_20 ?_
    refine lv_iconst (v := 1) hx hb dX8_add_23 (by decide) ?_
    refine lv_iadd hx hb dX8_add_24 ?_
    obtain ⟨S4, hS4, h⟩ := sy_b_e h
    refine sy_p7 fx X (sy_OSeen_o ht) 7 (by decide) wm_318 (fun _ h9 => h9) rfl (ty := .int) (by decide +kernel) rfl rfl hS4 sy_s7_7 dX8_add_25 (fun H locs X => ?_)
    refine lv_aload_n hx hb dX8_add_28 rfl (lv_at hl 0 rfl) ?_
    refine sy_g7 fx X (sy_OSeen_o ht) 7 (by decide) wm_318 (fun _ h9 => h9) rfl dX8_add_29 ?_
    exact sy_iret fx X hr hlk h dX8_add_32
def m_Seen_clear (S : sy_St) : sy_R := sy_b (sy_up S 374 7 0) fun S1 => some (0, S1)
theorem cv_Seen_clear : sy_cV RX8 yX8_clear cX8_clear 1 none 0 := ⟨wm_315, wm_316, wm_40, wm_317, by decide +kernel⟩
set_option maxRecDepth 100000 in
set_option maxHeartbeats 40000000 in
theorem c_Seen_clear (l : Launch) {E : sy_ET} (ht : sy_OSeen E) {S S' : sy_St} {r : Int32} (h : m_Seen_clear S = some (r, S')) : sy_MV l yX8_clear cX8_clear 1 0 0 [.ref (sy_ad E 374)] E S S' := by
  refine sy_MV_of RX8 pn_8 rfl (Nat.le_of_ble_eq_true rfl) (fun p e s m args below meth c A ls fx hr hlk hA X hl => ?_)
  have hx := fx.1
  have hb := fx.2.1
  have hown := fx.2.2.2.1
  have hts := fx.2.2.2.2
  have hl : lv_has ls 1 [(0, .ref (sy_ad E 374))] := hl
  unfold m_Seen_clear at h
  refine lv_aload_n hx hb dX8_clear_0 rfl (lv_at hl 0 rfl) ?_
  refine lv_iconst (v := 0) hx hb dX8_clear_1 (by decide) ?_
  obtain ⟨S1, hS1, h⟩ := sy_b_e h
  refine sy_p7 fx X (sy_OSeen_o ht) 7 (by decide) wm_318 (fun _ h9 => h9) rfl (ty := .int) (by decide +kernel) rfl rfl hS1 sy_s7_7 dX8_clear_2 (fun H locs X => ?_)
  exact sy_vret fx X hr hlk h dX8_clear_5
theorem cw_RX8_28_Rows_tryRows_s : sy_cU RX8 RX8 "SkyTurns$Rows" 28 ⟨"SkyTurns$SeenRows", "tryRows", "(LSkyTurns$Sky;I)V"⟩ yX7_tryRows cX7_tryRows 4 none 2 := ⟨wm_989, wm_990, wm_991, wm_699, wm_124, wm_700, by decide +kernel⟩
def m_Seen_find (k0 : Nat) (S : sy_St) : sy_R := sy_b (sy_up S 374 8 0) fun S1 => sy_b (sy_up S1 374 9 0) fun S2 => sy_c (m_Rows_tryRows_s k0 (S2 374 7) S2) fun r4 S3 => some (0, S3)
theorem cv_Seen_find : sy_cV RX8 yX8_find cX8_find 2 none 1 := ⟨wm_986, wm_987, wm_40, wm_988, by decide +kernel⟩
set_option maxRecDepth 100000 in
set_option maxHeartbeats 40000000 in
theorem c_Seen_find (l : Launch) {E : sy_ET} {k0 : Nat} (ht : sy_OSeen E) (h0 : sy_OSky E k0) {S S' : sy_St} {r : Int32} (h : m_Seen_find k0 S = some (r, S')) : sy_MV l yX8_find cX8_find 2 14 335 [.ref (sy_ad E 374), .ref (sy_ad E k0)] E S S' := by
  refine sy_MV_of RX8 pn_8 rfl (Nat.le_of_ble_eq_true rfl) (fun p e s m args below meth c A ls fx hr hlk hA X hl => ?_)
  have hx := fx.1
  have hb := fx.2.1
  have hown := fx.2.2.2.1
  have hts := fx.2.2.2.2
  have hl : lv_has ls 2 [(0, .ref (sy_ad E 374)), (1, .ref (sy_ad E k0))] := hl
  unfold m_Seen_find at h
  refine lv_aload_n hx hb dX8_find_0 rfl (lv_at hl 0 rfl) ?_
  refine lv_iconst (v := 0) hx hb dX8_find_1 (by decide) ?_
  obtain ⟨S1, hS1, h⟩ := sy_b_e h
  refine sy_p7 fx X (sy_OSeen_o ht) 8 (by decide) wm_717 (fun _ h9 => h9) rfl (ty := .int) (by decide +kernel) rfl rfl hS1 sy_s7_8 dX8_find_2 (fun H locs X => ?_)
  refine lv_aload_n hx hb dX8_find_5 rfl (lv_at hl 0 rfl) ?_
  refine lv_iconst (v := 0) hx hb dX8_find_6 (by decide) ?_
  obtain ⟨S2, hS2, h⟩ := sy_b_e h
  refine sy_p7 fx X (sy_OSeen_o ht) 9 (by decide) wm_718 (fun _ h9 => h9) rfl (ty := .int) (by decide +kernel) rfl rfl hS2 sy_s7_9 dX8_find_7 (fun H locs X => ?_)
  refine lv_aload_n hx hb dX8_find_10 rfl (lv_at hl 0 rfl) ?_
  refine lv_aload_n hx hb dX8_find_11 rfl (lv_at hl 1 rfl) ?_
  refine lv_aload_n hx hb dX8_find_12 rfl (lv_at hl 0 rfl) ?_
  refine sy_g7 fx X (sy_OSeen_o ht) 7 (by decide) wm_318 (fun _ h9 => h9) rfl dX8_find_13 ?_
  obtain ⟨r4, S3, hc5, h⟩ := sy_c_e h
  refine sy_uv (rest := []) fx hA X hl.1 (sy_OSeen_o ht) (sy_en7 (sy_OSeen_o ht).2) rfl (c_Rows_tryRows_s l ht h0 hc5) (sy_cuA hts cw_RX8_28_Rows_tryRows_s X.1.2.2.2.2.2.1 ⟨Nat.le_of_ble_eq_true rfl, Nat.le_of_ble_eq_true rfl⟩) ⟨Nat.le_refl _, Nat.le_refl _⟩ rfl rfl (Nat.le_of_ble_eq_true rfl) dX8_find_16 (fun H locs X => ?_)
  exact sy_vret fx X hr hlk h dX8_find_19
def m_Seen_holderAt (p0 : Int32) (S : sy_St) : sy_R := if (S 374 8) ≤ 0 then (some ((-1), S)) else (if p0 < 0 then (some ((-1), S)) else (if (S 374 4) ≤ p0 then (some ((-1), S)) else (sy_g (sy_in p0 5) <| some (S 378 p0.toNatClampNeg, S))))
theorem cv_Seen_holderAt : sy_cV RX8 yX8_holderAt cX8_holderAt 2 (some .int) 1 := ⟨wm_993, wm_994, wm_40, wm_995, by decide +kernel⟩
set_option maxRecDepth 100000 in
set_option maxHeartbeats 40000000 in
theorem c_Seen_holderAt (l : Launch) {E : sy_ET} (ht : sy_OSeen E) {p0 : Int32} {S S' : sy_St} {r : Int32} (h : m_Seen_holderAt p0 S = some (r, S')) : sy_MI l yX8_holderAt cX8_holderAt 2 (some .int) 0 0 [.ref (sy_ad E 374), .int p0] E S r S' := by
  refine sy_MI_of RX8 pn_8 rfl (Nat.le_of_ble_eq_true rfl) (fun p e s m args below meth c A ls fx hr hlk hA X hl => ?_)
  have hx := fx.1
  have hb := fx.2.1
  have hown := fx.2.2.2.1
  have hts := fx.2.2.2.2
  have hl : lv_has ls 2 [(0, .ref (sy_ad E 374)), (1, .int p0)] := hl
  unfold m_Seen_holderAt at h
  refine lv_aload_n hx hb dX8_holderAt_0 rfl (lv_at hl 0 rfl) ?_
  refine sy_g7 fx X (sy_OSeen_o ht) 8 (by decide) wm_717 (fun _ h9 => h9) rfl dX8_holderAt_1 ?_
  refine lv_if_le (tgt := 28) hx hb dX8_holderAt_4 (by decide) (fun c1 => ?_) (fun c1 => ?_)
  · have h := sy_t c1 h
    refine lv_iconst (v := (-1)) hx hb dX8_holderAt_28 (by decide) ?_
    exact sy_iret fx X hr hlk h dX8_holderAt_29
  · have h := sy_f c1 h
    refine lv_iload_n hx hb dX8_holderAt_7 rfl (lv_at hl 1 rfl) ?_
    refine lv_if_lt (tgt := 28) hx hb dX8_holderAt_8 (by decide) (fun c2 => ?_) (fun c2 => ?_)
    · have h := sy_t c2 h
      refine lv_iconst (v := (-1)) hx hb dX8_holderAt_28 (by decide) ?_
      exact sy_iret fx X hr hlk h dX8_holderAt_29
    · have h := sy_f c2 h
      refine lv_iload_n hx hb dX8_holderAt_11 rfl (lv_at hl 1 rfl) ?_
      refine lv_aload_n hx hb dX8_holderAt_12 rfl (lv_at hl 0 rfl) ?_
      refine sy_g7 fx X (sy_OSeen_o ht) 4 (by decide) wm_996 (u_same (hts _ wm_997)) rfl dX8_holderAt_13 ?_
      refine lv_icmp_ge (tgt := 28) hx hb dX8_holderAt_16 (by decide) (fun c3 => ?_) (fun c3 => ?_)
      · have h := sy_t c3 h
        refine lv_iconst (v := (-1)) hx hb dX8_holderAt_28 (by decide) ?_
        exact sy_iret fx X hr hlk h dX8_holderAt_29
      · have h := sy_f c3 h
        refine lv_aload_n hx hb dX8_holderAt_19 rfl (lv_at hl 0 rfl) ?_
        refine sy_q7 fx X (sy_OSeen_o ht) 6 (by decide) wm_135 (fun _ h9 => h9) rfl (sy_OSeen_r6 ht) dX8_holderAt_20 ?_
        refine lv_iload_n hx hb dX8_holderAt_23 rfl (lv_at hl 1 rfl) ?_
        obtain ⟨g4, h⟩ := sy_g_e h
        refine sy_iald fx X (sy_OSeen_a6 ht) g4 dX8_holderAt_24 ?_
        refine lv_goto (tgt := 29) hx hb dX8_holderAt_25 (by decide) ?_
        exact sy_iret fx X hr hlk h dX8_holderAt_29
def m_Shift_isFound (S : sy_St) : sy_R := if 5 < (S 370 6) then (some (0, S)) else (some (1, S))
theorem cv_Shift_isFound : sy_cV RX9 yX9_isFound cX9_isFound 1 (some .boolean) 0 := ⟨wm_754, wm_755, wm_36, wm_756, by decide +kernel⟩
set_option maxRecDepth 100000 in
set_option maxHeartbeats 40000000 in
theorem c_Shift_isFound (l : Launch) {E : sy_ET} (ht : sy_OShift E) {S S' : sy_St} {r : Int32} (h : m_Shift_isFound S = some (r, S')) : sy_MI l yX9_isFound cX9_isFound 1 (some .boolean) 0 0 [.ref (sy_ad E 370)] E S r S' := by
  refine sy_MI_of RX9 pn_9 rfl (Nat.le_of_ble_eq_true rfl) (fun p e s m args below meth c A ls fx hr hlk hA X hl => ?_)
  have hx := fx.1
  have hb := fx.2.1
  have hown := fx.2.2.2.1
  have hts := fx.2.2.2.2
  have hl : lv_has ls 1 [(0, .ref (sy_ad E 370))] := hl
  unfold m_Shift_isFound at h
  refine lv_aload_n hx hb dX9_isFound_0 rfl (lv_at hl 0 rfl) ?_
  refine sy_g8 fx X (sy_OShift_o ht) 6 (by decide) wm_694 (fun _ h9 => h9) rfl dX9_isFound_1 ?_
  refine lv_iconst (v := 5) hx hb dX9_isFound_4 (by decide) ?_
  refine lv_icmp_gt (tgt := 12) hx hb dX9_isFound_5 (by decide) (fun c1 => ?_) (fun c1 => ?_)
  · have h := sy_t c1 h
    refine lv_iconst (v := 0) hx hb dX9_isFound_12 (by decide) ?_
    exact sy_zret fx X hr hlk (Or.inl rfl) h dX9_isFound_13
  · have h := sy_f c1 h
    refine lv_iconst (v := 1) hx hb dX9_isFound_8 (by decide) ?_
    refine lv_goto (tgt := 13) hx hb dX9_isFound_9 (by decide) ?_
    exact sy_zret fx X hr hlk (Or.inr rfl) h dX9_isFound_13
def m_Shift_fewest (S : sy_St) : sy_R := sy_c (m_Shift_isFound S) fun r2 S1 => if r2 = 0 then (some ((-1), S1)) else (some (S1 370 6, S1))
theorem cv_Shift_fewest : sy_cV RX9 yX9_fewest cX9_fewest 1 (some .int) 0 := ⟨wm_750, wm_751, wm_36, wm_752, by decide +kernel⟩
set_option maxRecDepth 100000 in
set_option maxHeartbeats 40000000 in
theorem c_Shift_fewest (l : Launch) {E : sy_ET} (ht : sy_OShift E) {S S' : sy_St} {r : Int32} (h : m_Shift_fewest S = some (r, S')) : sy_MI l yX9_fewest cX9_fewest 1 (some .int) 1 20 [.ref (sy_ad E 370)] E S r S' := by
  refine sy_MI_of RX9 pn_9 rfl (Nat.le_of_ble_eq_true rfl) (fun p e s m args below meth c A ls fx hr hlk hA X hl => ?_)
  have hx := fx.1
  have hb := fx.2.1
  have hown := fx.2.2.2.1
  have hts := fx.2.2.2.2
  have hl : lv_has ls 1 [(0, .ref (sy_ad E 370))] := hl
  unfold m_Shift_fewest at h
  refine lv_aload_n hx hb dX9_fewest_0 rfl (lv_at hl 0 rfl) ?_
  obtain ⟨r2, S1, hc3, h⟩ := sy_c_e h
  refine sy_vi (rest := []) fx hA X hl.1 (sy_OShift_o ht) (sy_en8 (sy_OShift_o ht).2) rfl (c_Shift_isFound l ht hc3) cv_Shift_isFound wm_753 ⟨Nat.le_of_ble_eq_true rfl, Nat.le_of_ble_eq_true rfl, Nat.le_refl _, Nat.le_refl _⟩ rfl rfl (Nat.le_of_ble_eq_true rfl) dX9_fewest_1 (fun H locs X => ?_)
  refine lv_if_eq (tgt := 14) hx hb dX9_fewest_4 (by decide) (fun c4 => ?_) (fun c4 => ?_)
  · have h := sy_t c4 h
    refine lv_iconst (v := (-1)) hx hb dX9_fewest_14 (by decide) ?_
    exact sy_iret fx X hr hlk h dX9_fewest_15
  · have h := sy_f c4 h
    refine lv_aload_n hx hb dX9_fewest_7 rfl (lv_at hl 0 rfl) ?_
    refine sy_g8 fx X (sy_OShift_o ht) 6 (by decide) wm_694 (fun _ h9 => h9) rfl dX9_fewest_8 ?_
    refine lv_goto (tgt := 15) hx hb dX9_fewest_11 (by decide) ?_
    exact sy_iret fx X hr hlk h dX9_fewest_15
theorem cw_RX9_25_Rows_tryRows_h : sy_cU RX9 RX9 "SkyTurns$Rows" 25 ⟨"SkyTurns$ShiftRows", "tryRows", "(LSkyTurns$Sky;I)V"⟩ yX7_tryRows cX7_tryRows 4 none 2 := ⟨wm_696, wm_697, wm_698, wm_699, wm_124, wm_700, by decide +kernel⟩
def m_Shift_find (k0 : Nat) (p1 : Int32) (p2 : Int32) (S : sy_St) : sy_R := sy_b (sy_up S 370 8 p2) fun S1 => sy_b (sy_up S1 370 6 6) fun S2 => sy_b (sy_up S2 370 7 0) fun S3 => sy_c (m_Rows_tryRows_h k0 p1 S3) fun r5 S4 => some (0, S4)
theorem cv_Shift_find : sy_cV RX9 yX9_find cX9_find 4 none 3 := ⟨wm_690, wm_691, wm_36, wm_692, by decide +kernel⟩
set_option maxRecDepth 100000 in
set_option maxHeartbeats 40000000 in
theorem c_Shift_find (l : Launch) {E : sy_ET} {k0 : Nat} (ht : sy_OShift E) (h0 : sy_OSky E k0) {p1 : Int32} {p2 : Int32} {S S' : sy_St} {r : Int32} (h : m_Shift_find k0 p1 p2 S = some (r, S')) : sy_MV l yX9_find cX9_find 4 14 335 [.ref (sy_ad E 370), .ref (sy_ad E k0), .int p1, .int p2] E S S' := by
  refine sy_MV_of RX9 pn_9 rfl (Nat.le_of_ble_eq_true rfl) (fun p e s m args below meth c A ls fx hr hlk hA X hl => ?_)
  have hx := fx.1
  have hb := fx.2.1
  have hown := fx.2.2.2.1
  have hts := fx.2.2.2.2
  have hl : lv_has ls 4 [(0, .ref (sy_ad E 370)), (1, .ref (sy_ad E k0)), (2, .int p1), (3, .int p2)] := hl
  unfold m_Shift_find at h
  refine lv_aload_n hx hb dX9_find_0 rfl (lv_at hl 0 rfl) ?_
  refine lv_iload_n hx hb dX9_find_1 rfl (lv_at hl 3 rfl) ?_
  obtain ⟨S1, hS1, h⟩ := sy_b_e h
  refine sy_p8 fx X (sy_OShift_o ht) 8 (by decide) wm_693 (fun _ h9 => h9) rfl (ty := .int) (by decide +kernel) rfl rfl hS1 sy_s8_8 dX9_find_2 (fun H locs X => ?_)
  refine lv_aload_n hx hb dX9_find_5 rfl (lv_at hl 0 rfl) ?_
  refine lv_bipush (v := 6) hx hb dX9_find_6 (by decide) ?_
  obtain ⟨S2, hS2, h⟩ := sy_b_e h
  refine sy_p8 fx X (sy_OShift_o ht) 6 (by decide) wm_694 (fun _ h9 => h9) rfl (ty := .int) (by decide +kernel) rfl rfl hS2 sy_s8_6 dX9_find_8 (fun H locs X => ?_)
  refine lv_aload_n hx hb dX9_find_11 rfl (lv_at hl 0 rfl) ?_
  refine lv_iconst (v := 0) hx hb dX9_find_12 (by decide) ?_
  obtain ⟨S3, hS3, h⟩ := sy_b_e h
  refine sy_p8 fx X (sy_OShift_o ht) 7 (by decide) wm_695 (fun _ h9 => h9) rfl (ty := .int) (by decide +kernel) rfl rfl hS3 sy_s8_7 dX9_find_13 (fun H locs X => ?_)
  refine lv_aload_n hx hb dX9_find_16 rfl (lv_at hl 0 rfl) ?_
  refine lv_aload_n hx hb dX9_find_17 rfl (lv_at hl 1 rfl) ?_
  refine lv_iload_n hx hb dX9_find_18 rfl (lv_at hl 2 rfl) ?_
  obtain ⟨r5, S4, hc6, h⟩ := sy_c_e h
  refine sy_uv (rest := []) fx hA X hl.1 (sy_OShift_o ht) (sy_en8 (sy_OShift_o ht).2) rfl (c_Rows_tryRows_h l ht h0 hc6) (sy_cuA hts cw_RX9_25_Rows_tryRows_h X.1.2.2.2.2.2.1 ⟨Nat.le_of_ble_eq_true rfl, Nat.le_of_ble_eq_true rfl⟩) ⟨Nat.le_refl _, Nat.le_refl _⟩ rfl rfl (Nat.le_of_ble_eq_true rfl) dX9_find_19 (fun H locs X => ?_)
  exact sy_vret fx X hr hlk h dX9_find_22
def m_Shift_firstSunk (S : sy_St) : sy_R := if (S 370 4) ≤ (S 370 7) then (some ((-1), S)) else (some (S 370 7, S))
theorem cv_Shift_firstSunk : sy_cV RX9 yX9_firstSunk cX9_firstSunk 1 (some .int) 0 := ⟨wm_787, wm_788, wm_36, wm_789, by decide +kernel⟩
set_option maxRecDepth 100000 in
set_option maxHeartbeats 40000000 in
theorem c_Shift_firstSunk (l : Launch) {E : sy_ET} (ht : sy_OShift E) {S S' : sy_St} {r : Int32} (h : m_Shift_firstSunk S = some (r, S')) : sy_MI l yX9_firstSunk cX9_firstSunk 1 (some .int) 0 0 [.ref (sy_ad E 370)] E S r S' := by
  refine sy_MI_of RX9 pn_9 rfl (Nat.le_of_ble_eq_true rfl) (fun p e s m args below meth c A ls fx hr hlk hA X hl => ?_)
  have hx := fx.1
  have hb := fx.2.1
  have hown := fx.2.2.2.1
  have hts := fx.2.2.2.2
  have hl : lv_has ls 1 [(0, .ref (sy_ad E 370))] := hl
  unfold m_Shift_firstSunk at h
  refine lv_aload_n hx hb dX9_firstSunk_0 rfl (lv_at hl 0 rfl) ?_
  refine sy_g8 fx X (sy_OShift_o ht) 7 (by decide) wm_695 (fun _ h9 => h9) rfl dX9_firstSunk_1 ?_
  refine lv_aload_n hx hb dX9_firstSunk_4 rfl (lv_at hl 0 rfl) ?_
  refine sy_g8 fx X (sy_OShift_o ht) 4 (by decide) wm_761 (u_same (hts _ wm_762)) rfl dX9_firstSunk_5 ?_
  refine lv_icmp_ge (tgt := 18) hx hb dX9_firstSunk_8 (by decide) (fun c1 => ?_) (fun c1 => ?_)
  · have h := sy_t c1 h
    refine lv_iconst (v := (-1)) hx hb dX9_firstSunk_18 (by decide) ?_
    exact sy_iret fx X hr hlk h dX9_firstSunk_19
  · have h := sy_f c1 h
    refine lv_aload_n hx hb dX9_firstSunk_11 rfl (lv_at hl 0 rfl) ?_
    refine sy_g8 fx X (sy_OShift_o ht) 7 (by decide) wm_695 (fun _ h9 => h9) rfl dX9_firstSunk_12 ?_
    refine lv_goto (tgt := 19) hx hb dX9_firstSunk_15 (by decide) ?_
    exact sy_iret fx X hr hlk h dX9_firstSunk_19
def m_Shift_holderAt (p0 : Int32) (S : sy_St) : sy_R := sy_c (m_Shift_isFound S) fun r2 S1 => if r2 = 0 then (some ((-1), S1)) else (if p0 < 0 then (some ((-1), S1)) else (if (S1 370 4) ≤ p0 then (some ((-1), S1)) else (sy_g (sy_in p0 5) <| some (S1 373 p0.toNatClampNeg, S1))))
theorem cv_Shift_holderAt : sy_cV RX9 yX9_holderAt cX9_holderAt 2 (some .int) 1 := ⟨wm_758, wm_759, wm_36, wm_760, by decide +kernel⟩
set_option maxRecDepth 100000 in
set_option maxHeartbeats 40000000 in
theorem c_Shift_holderAt (l : Launch) {E : sy_ET} (ht : sy_OShift E) {p0 : Int32} {S S' : sy_St} {r : Int32} (h : m_Shift_holderAt p0 S = some (r, S')) : sy_MI l yX9_holderAt cX9_holderAt 2 (some .int) 1 20 [.ref (sy_ad E 370), .int p0] E S r S' := by
  refine sy_MI_of RX9 pn_9 rfl (Nat.le_of_ble_eq_true rfl) (fun p e s m args below meth c A ls fx hr hlk hA X hl => ?_)
  have hx := fx.1
  have hb := fx.2.1
  have hown := fx.2.2.2.1
  have hts := fx.2.2.2.2
  have hl : lv_has ls 2 [(0, .ref (sy_ad E 370)), (1, .int p0)] := hl
  unfold m_Shift_holderAt at h
  refine lv_aload_n hx hb dX9_holderAt_0 rfl (lv_at hl 0 rfl) ?_
  obtain ⟨r2, S1, hc3, h⟩ := sy_c_e h
  refine sy_vi (rest := []) fx hA X hl.1 (sy_OShift_o ht) (sy_en8 (sy_OShift_o ht).2) rfl (c_Shift_isFound l ht hc3) cv_Shift_isFound wm_753 ⟨Nat.le_of_ble_eq_true rfl, Nat.le_of_ble_eq_true rfl, Nat.le_refl _, Nat.le_refl _⟩ rfl rfl (Nat.le_of_ble_eq_true rfl) dX9_holderAt_1 (fun H locs X => ?_)
  refine lv_if_eq (tgt := 28) hx hb dX9_holderAt_4 (by decide) (fun c4 => ?_) (fun c4 => ?_)
  · have h := sy_t c4 h
    refine lv_iconst (v := (-1)) hx hb dX9_holderAt_28 (by decide) ?_
    exact sy_iret fx X hr hlk h dX9_holderAt_29
  · have h := sy_f c4 h
    refine lv_iload_n hx hb dX9_holderAt_7 rfl (lv_at hl 1 rfl) ?_
    refine lv_if_lt (tgt := 28) hx hb dX9_holderAt_8 (by decide) (fun c5 => ?_) (fun c5 => ?_)
    · have h := sy_t c5 h
      refine lv_iconst (v := (-1)) hx hb dX9_holderAt_28 (by decide) ?_
      exact sy_iret fx X hr hlk h dX9_holderAt_29
    · have h := sy_f c5 h
      refine lv_iload_n hx hb dX9_holderAt_11 rfl (lv_at hl 1 rfl) ?_
      refine lv_aload_n hx hb dX9_holderAt_12 rfl (lv_at hl 0 rfl) ?_
      refine sy_g8 fx X (sy_OShift_o ht) 4 (by decide) wm_761 (u_same (hts _ wm_762)) rfl dX9_holderAt_13 ?_
      refine lv_icmp_ge (tgt := 28) hx hb dX9_holderAt_16 (by decide) (fun c6 => ?_) (fun c6 => ?_)
      · have h := sy_t c6 h
        refine lv_iconst (v := (-1)) hx hb dX9_holderAt_28 (by decide) ?_
        exact sy_iret fx X hr hlk h dX9_holderAt_29
      · have h := sy_f c6 h
        refine lv_aload_n hx hb dX9_holderAt_19 rfl (lv_at hl 0 rfl) ?_
        refine sy_q8 fx X (sy_OShift_o ht) 5 (by decide) wm_121 (fun _ h9 => h9) rfl (sy_OShift_r5 ht) dX9_holderAt_20 ?_
        refine lv_iload_n hx hb dX9_holderAt_23 rfl (lv_at hl 1 rfl) ?_
        obtain ⟨g7, h⟩ := sy_g_e h
        refine sy_iald fx X (sy_OShift_a5 ht) g7 dX9_holderAt_24 ?_
        refine lv_goto (tgt := 29) hx hb dX9_holderAt_25 (by decide) ?_
        exact sy_iret fx X hr hlk h dX9_holderAt_29
