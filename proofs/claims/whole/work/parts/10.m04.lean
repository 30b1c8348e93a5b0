def m_Sky_rest (k : Nat) (p0 : Int32) (S : sy_St) : sy_R := sy_g (sy_in p0 6) <| sy_g (sy_in p0 6) <| sy_b (sy_up S (k + 1) p0.toNatClampNeg (sy_max 0 ((S (k + 1) p0.toNatClampNeg) - 1))) fun S3 => sy_g (sy_in p0 6) <| sy_b (sy_up S3 (k + 3) p0.toNatClampNeg 0) fun S5 => some (0, S5)
theorem cv_Sky_rest : sy_cV RX10 yX10_rest cX10_rest 2 none 1 := ⟨wm_523, wm_524, wm_17, wm_525, by decide +kernel⟩
set_option maxRecDepth 100000 in
set_option maxHeartbeats 40000000 in
theorem c_Sky_rest (l : Launch) {E : sy_ET} {k : Nat} (ht : sy_OSky E k) {p0 : Int32} {S S' : sy_St} {r : Int32} (h : m_Sky_rest k p0 S = some (r, S')) : sy_MV l yX10_rest cX10_rest 2 1 30 [.ref (sy_ad E k), .int p0] E S S' := by
  refine sy_MV_of RX10 pn_10 rfl (Nat.le_of_ble_eq_true rfl) (fun p e s m args below meth c A ls fx hr hlk hA X hl => ?_)
  have hx := fx.1
  have hb := fx.2.1
  have hown := fx.2.2.2.1
  have hts := fx.2.2.2.2
  have hl : lv_has ls 2 [(0, .ref (sy_ad E k)), (1, .int p0)] := hl
  unfold m_Sky_rest at h
  refine lv_aload_n hx hb dX10_rest_0 rfl (lv_at hl 0 rfl) ?_
  refine sy_q9 fx X (sy_OSky_o ht) 1 (by decide) wm_86 (fun _ h9 => h9) rfl (sy_OSky_r1 ht) dX10_rest_1 ?_
  refine lv_iload_n hx hb dX10_rest_4 rfl (lv_at hl 1 rfl) ?_
  refine lv_iconst (v := 0) hx hb dX10_rest_5 (by decide) ?_
  refine lv_aload_n hx hb dX10_rest_6 rfl (lv_at hl 0 rfl) ?_
  refine sy_q9 fx X (sy_OSky_o ht) 1 (by decide) wm_86 (fun _ h9 => h9) rfl (sy_OSky_r1 ht) dX10_rest_7 ?_
  refine lv_iload_n hx hb dX10_rest_10 rfl (lv_at hl 1 rfl) ?_
  obtain ⟨g1, h⟩ := sy_g_e h
  refine sy_iald fx X (sy_OSky_a1 ht) g1 dX10_rest_11 ?_
  refine lv_iconst (v := 1) hx hb dX10_rest_12 (by decide) ?_
  refine lv_isub hx hb dX10_rest_13 ?_
  refine va_mmax (rest := [.int p0, .ref (sy_ad E (k + 1))]) hx hb (fx.2.2.1.trans hl.1.symm) hown (hts _ wm_412) (hts _ wm_413) (hts _ wm_414) (hts _ wm_415) (Nat.le_of_ble_eq_true rfl) (Nat.le_of_ble_eq_true rfl) (Nat.le_refl _) (Nat.le_refl _) dX10_rest_14 ?_
  obtain ⟨g2, h⟩ := sy_g_e h
  obtain ⟨S3, hS3, h⟩ := sy_b_e h
  refine sy_iast fx X (sy_OSky_a1 ht) g2 hS3 dX10_rest_17 (fun H locs X => ?_)
  refine lv_aload_n hx hb dX10_rest_18 rfl (lv_at hl 0 rfl) ?_
  refine sy_q9 fx X (sy_OSky_o ht) 3 (by decide) wm_88 (fun _ h9 => h9) rfl (sy_OSky_r3 ht) dX10_rest_19 ?_
  refine lv_iload_n hx hb dX10_rest_22 rfl (lv_at hl 1 rfl) ?_
  refine lv_iconst (v := 0) hx hb dX10_rest_23 (by decide) ?_
  obtain ⟨g4, h⟩ := sy_g_e h
  obtain ⟨S5, hS5, h⟩ := sy_b_e h
  refine sy_iast fx X (sy_OSky_a3 ht) g4 hS5 dX10_rest_24 (fun H locs X => ?_)
  exact sy_vret fx X hr hlk h dX10_rest_25
def m_Sky_endHour_B25 (k : Nat) (kk25 : Int32 → sy_St → sy_R) (y2 : Int32) (S : sy_St) : sy_R := if (S 1 8) ≤ y2 then (sy_b (sy_up S k 5 ((S k 5) + 1)) fun S4 => some (0, S4)) else (sy_c (m_Sky_isHolding k y2 S) fun r6 S5 => if r6 = 0 then (sy_c (m_Sky_rest k y2 S5) fun r10 S9 => sy_b (y2 + 1 : Int32) fun x12 => kk25 x12 S9) else (sy_c (m_Sky_bear k y2 S5) fun r14 S13 => sy_b (y2 + 1 : Int32) fun x16 => kk25 x16 S13))
def m_Sky_endHour (k : Nat) (p0 : Int32) (S : sy_St) : sy_R := sy_b (sy_up S k 6 p0) fun S1 => sy_b (sy_up S1 k 7 (sy_min 999999999 ((S1 k 7) + (S1 k 6)))) fun S2 => sy_fix (fun _ _ => none) (m_Sky_endHour_B25 k) sy_F 0 S2
theorem cv_Sky_endHour : sy_cV RX10 yX10_endHour cX10_endHour 3 none 1 := ⟨wm_510, wm_511, wm_17, wm_512, by decide +kernel⟩
set_option maxRecDepth 100000 in
set_option maxHeartbeats 40000000 in
theorem c_Sky_endHour (l : Launch) {E : sy_ET} {k : Nat} (ht : sy_OSky E k) {p0 : Int32} {S S' : sy_St} {r : Int32} (h : m_Sky_endHour k p0 S = some (r, S')) : sy_MV l yX10_endHour cX10_endHour 3 2 51 [.ref (sy_ad E k), .int p0] E S S' := by
  refine sy_MV_of RX10 pn_10 rfl (Nat.le_of_ble_eq_true rfl) (fun p e s m args below meth c A ls fx hr hlk hA X hl => ?_)
  have hx := fx.1
  have hb := fx.2.1
  have hown := fx.2.2.2.1
  have hts := fx.2.2.2.2
  have hl : lv_has ls 3 [(0, .ref (sy_ad E k)), (1, .int p0)] := hl
  have L_25 : ∀ (n25 : Nat) (y2 : Int32) (S : sy_St) (H : Heap) (locs : List Loc) (ls : Array Slot), sy_Wd E A s S H locs → lv_has ls 3 [(0, .ref (sy_ad E k)), (2, .int y2)] → sy_fix (fun _ _ => none) (m_Sky_endHour_B25 k) n25 y2 S = some (r, S') → W p l e (sy_rm 2 51) s m args below meth c H locs 0 0 (MQ below (sy_Qv E A S') args s 0 0 A) (F0 m 25 ls []) := by
    intro n25
    induction n25 with
    | zero => intro y2 S H locs ls X hl h; have h9 : (none : sy_R) = some (r, S') := h; cases h9
    | succ n25 ih25 =>
      intro y2 S H locs ls X hl h
      have h : m_Sky_endHour_B25 k (sy_fix (fun _ _ => none) (m_Sky_endHour_B25 k) n25) y2 S = some (r, S') := h
      unfold m_Sky_endHour_B25 at h
      refine lv_iload_n hx hb dX10_endHour_25 rfl (lv_at hl 1 rfl) ?_
      refine lv_aload_n hx hb dX10_endHour_26 rfl (lv_at hl 0 rfl) ?_
      refine sy_q9 fx X (sy_OSky_o ht) 0 (by decide) wm_90 (fun _ h9 => h9) rfl (sy_OSky_r0 ht) dX10_endHour_27 ?_
      refine sy_g3 fx X (sy_OEdge_o (sy_OSky_a0 ht)) 8 (by decide) wm_100 (fun _ h9 => h9) rfl dX10_endHour_30 ?_
      refine lv_icmp_ge (tgt := 63) hx hb dX10_endHour_33 (by decide) (fun c3 => ?_) (fun c3 => ?_)
      · have h := sy_t c3 h
        refine lv_aload_n hx hb dX10_endHour_63 rfl (lv_at hl 0 rfl) ?_
        refine lv_dup hx hb dX10_endHour_64 rfl ?_
        refine sy_g9 fx X (sy_OSky_o ht) 5 (by decide) wm_95 (fun _ h9 => h9) rfl dX10_endHour_65 ?_
        refine lv_iconst (v := 1) hx hb dX10_endHour_68 (by decide) ?_
        refine lv_iadd hx hb dX10_endHour_69 ?_
        obtain ⟨S4, hS4, h⟩ := sy_b_e h
        refine sy_p9 fx X (sy_OSky_o ht) 5 (by decide) wm_95 (fun _ h9 => h9) rfl (ty := .int) (by decide +kernel) rfl rfl hS4 sy_s9_5 dX10_endHour_70 (fun H locs X => ?_)
        exact sy_vret fx X hr hlk h dX10_endHour_73
      · have h := sy_f c3 h
        refine lv_aload_n hx hb dX10_endHour_36 rfl (lv_at hl 0 rfl) ?_
        refine lv_iload_n hx hb dX10_endHour_37 rfl (lv_at hl 1 rfl) ?_
        obtain ⟨r6, S5, hc7, h⟩ := sy_c_e h
        refine sy_vi (rest := []) fx hA X hl.1 (sy_OSky_o ht) (sy_en9 (sy_OSky_o ht).2) rfl (c_Sky_isHolding l ht hc7) cv_Sky_isHolding wm_514 ⟨Nat.le_of_ble_eq_true rfl, Nat.le_of_ble_eq_true rfl, Nat.le_refl _, Nat.le_refl _⟩ rfl rfl (Nat.le_of_ble_eq_true rfl) dX10_endHour_38 (fun H locs X => ?_)
        refine lv_if_eq (tgt := 52) hx hb dX10_endHour_41 (by decide) (fun c8 => ?_) (fun c8 => ?_)
        · have h := sy_t c8 h
          refine lv_aload_n hx hb dX10_endHour_52 rfl (lv_at hl 0 rfl) ?_
          refine lv_iload_n hx hb dX10_endHour_53 rfl (lv_at hl 1 rfl) ?_
          obtain ⟨r10, S9, hc11, h⟩ := sy_c_e h
          refine sy_vv (rest := []) fx hA X hl.1 (sy_OSky_o ht) (sy_en9 (sy_OSky_o ht).2) rfl (c_Sky_rest l ht hc11) cv_Sky_rest wm_522 ⟨Nat.le_of_ble_eq_true rfl, Nat.le_of_ble_eq_true rfl, Nat.le_refl _, Nat.le_refl _⟩ rfl rfl (Nat.le_of_ble_eq_true rfl) dX10_endHour_54 (fun H locs X => ?_)
          obtain ⟨x12, hx12, h⟩ := sy_b_e h
          refine lv_iinc (v := x12) (lv' := [(2, .int x12), (0, .ref (sy_ad E k))]) hx hb dX10_endHour_57 hl (k := 1) rfl (by rw [hx12]; rfl) (by decide) rfl (fun ls hl => ?_)
          refine lv_goto (tgt := 25) hx hb dX10_endHour_60 (by decide) ?_
          exact ih25 x12 S9 _ _ _ X (lv_sub hl [1, 0] rfl) h
        · have h := sy_f c8 h
          refine lv_aload_n hx hb dX10_endHour_44 rfl (lv_at hl 0 rfl) ?_
          refine lv_iload_n hx hb dX10_endHour_45 rfl (lv_at hl 1 rfl) ?_
          obtain ⟨r14, S13, hc15, h⟩ := sy_c_e h
          refine sy_vv (rest := []) fx hA X hl.1 (sy_OSky_o ht) (sy_en9 (sy_OSky_o ht).2) rfl (c_Sky_bear l ht hc15) cv_Sky_bear wm_518 ⟨Nat.le_of_ble_eq_true rfl, Nat.le_of_ble_eq_true rfl, Nat.le_refl _, Nat.le_refl _⟩ rfl rfl (Nat.le_of_ble_eq_true rfl) dX10_endHour_46 (fun H locs X => ?_)
          refine lv_goto (tgt := 57) hx hb dX10_endHour_49 (by decide) ?_
          obtain ⟨x16, hx16, h⟩ := sy_b_e h
          refine lv_iinc (v := x16) (lv' := [(2, .int x16), (0, .ref (sy_ad E k))]) hx hb dX10_endHour_57 hl (k := 1) rfl (by rw [hx16]; rfl) (by decide) rfl (fun ls hl => ?_)
          refine lv_goto (tgt := 25) hx hb dX10_endHour_60 (by decide) ?_
          exact ih25 x16 S13 _ _ _ X (lv_sub hl [1, 0] rfl) h
  unfold m_Sky_endHour at h
  refine lv_aload_n hx hb dX10_endHour_0 rfl (lv_at hl 0 rfl) ?_
  refine lv_iload_n hx hb dX10_endHour_1 rfl (lv_at hl 1 rfl) ?_
  obtain ⟨S1, hS1, h⟩ := sy_b_e h
  refine sy_p9 fx X (sy_OSky_o ht) 6 (by decide) wm_96 (fun _ h9 => h9) rfl (ty := .int) (by decide +kernel) rfl rfl hS1 sy_s9_6 dX10_endHour_2 (fun H locs X => ?_)
  refine lv_aload_n hx hb dX10_endHour_5 rfl (lv_at hl 0 rfl) ?_
  refine lv_ldc (v := 999999999) hx hb hown (hts _ wm_513) dX10_endHour_6 ?_
  refine lv_aload_n hx hb dX10_endHour_8 rfl (lv_at hl 0 rfl) ?_
  refine sy_g9 fx X (sy_OSky_o ht) 7 (by decide) wm_97 (fun _ h9 => h9) rfl dX10_endHour_9 ?_
  refine lv_aload_n hx hb dX10_endHour_12 rfl (lv_at hl 0 rfl) ?_
  refine sy_g9 fx X (sy_OSky_o ht) 6 (by decide) wm_96 (fun _ h9 => h9) rfl dX10_endHour_13 ?_
  refine lv_iadd hx hb dX10_endHour_16 ?_
  refine va_mmin (rest := [.ref (sy_ad E k)]) hx hb (fx.2.2.1.trans hl.1.symm) hown (hts _ wm_507) (hts _ wm_492) (hts _ wm_414) (hts _ wm_493) (Nat.le_of_ble_eq_true rfl) (Nat.le_of_ble_eq_true rfl) (Nat.le_refl _) (Nat.le_refl _) dX10_endHour_17 ?_
  obtain ⟨S2, hS2, h⟩ := sy_b_e h
  refine sy_p9 fx X (sy_OSky_o ht) 7 (by decide) wm_97 (fun _ h9 => h9) rfl (ty := .int) (by decide +kernel) rfl rfl hS2 sy_s9_7 dX10_endHour_20 (fun H locs X => ?_)
  refine lv_iconst (v := 0) hx hb dX10_endHour_23 (by decide) ?_
  refine lv_istore_n (lv' := [(2, .int 0), (0, .ref (sy_ad E k)), (1, .int p0)]) hx hb dX10_endHour_24 rfl hl (by decide) rfl (fun ls hl => ?_)
  exact L_25 sy_F 0 S2 _ _ _ X (lv_sub hl [1, 0] rfl) h
def m_Rows_standBehind_s (p0 : Int32) (p1 : Int32) (p2 : Int32) (S : sy_St) : sy_R := sy_b (p0 + 1 : Int32) fun x1 => sy_g (sy_in x1 5) <| sy_g (sy_in p0 5) <| sy_c (m_Sky_copyFrom (10 + 5 * x1.toNatClampNeg) (10 + 5 * p0.toNatClampNeg) S) fun r5 S4 => sy_c (m_Sky_handTo (10 + 5 * x1.toNatClampNeg) p1 S4) fun r8 S7 => sy_c (m_Sky_endHour (10 + 5 * x1.toNatClampNeg) p2 S7) fun r11 S10 => some (0, S10)
set_option maxRecDepth 100000 in
set_option maxHeartbeats 40000000 in
theorem c_Rows_standBehind_s (l : Launch) {E : sy_ET} (ht : sy_OSeen E) {p0 : Int32} {p1 : Int32} {p2 : Int32} {S S' : sy_St} {r : Int32} (h : m_Rows_standBehind_s p0 p1 p2 S = some (r, S')) : sy_MV l yX7_standBehind cX7_standBehind 5 3 81 [.ref (sy_ad E 374), .int p0, .int p1, .int p2] E S S' := by
  refine sy_MV_of RX7 pn_7 rfl (Nat.le_of_ble_eq_true rfl) (fun p e s m args below meth c A ls fx hr hlk hA X hl => ?_)
  have hx := fx.1
  have hb := fx.2.1
  have hown := fx.2.2.2.1
  have hts := fx.2.2.2.2
  have hl : lv_has ls 5 [(0, .ref (sy_ad E 374)), (1, .int p0), (2, .int p1), (3, .int p2)] := hl
  unfold m_Rows_standBehind_s at h
  refine lv_aload_n hx hb dX7_standBehind_0 rfl (lv_at hl 0 rfl) ?_
  refine sy_q7 fx X (sy_OSeen_o ht) 1 (by decide) wm_130 (fun _ h9 => h9) rfl (sy_OSeen_r1 ht) dX7_standBehind_1 ?_
  refine lv_iload_n hx hb dX7_standBehind_4 rfl (lv_at hl 1 rfl) ?_
  refine lv_iconst (v := 1) hx hb dX7_standBehind_5 (by decide) ?_
  refine lv_iadd hx hb dX7_standBehind_6 ?_
  obtain ⟨x1, hx1, h⟩ := sy_b_e h
  refine sy_top hx1 ?_
  obtain ⟨g2, h⟩ := sy_g_e h
  refine sy_aald fx X (sy_OSeen_a1 ht).1 g2 ((sy_OSeen_a1 ht).2 _ (sy_in_lt g2)).1 dX7_standBehind_7 ?_
  refine lv_astore (lv' := [(4, .ref (sy_ad E (10 + 5 * x1.toNatClampNeg))), (0, .ref (sy_ad E 374)), (1, .int p0), (2, .int p1), (3, .int p2)]) hx hb dX7_standBehind_8 hl (by decide) rfl (fun ls hl => ?_)
  refine lv_aload hx hb dX7_standBehind_10 (lv_at hl 0 rfl) ?_
  refine lv_aload_n hx hb dX7_standBehind_12 rfl (lv_at hl 1 rfl) ?_
  refine sy_q7 fx X (sy_OSeen_o ht) 1 (by decide) wm_130 (fun _ h9 => h9) rfl (sy_OSeen_r1 ht) dX7_standBehind_13 ?_
  refine lv_iload_n hx hb dX7_standBehind_16 rfl (lv_at hl 2 rfl) ?_
  obtain ⟨g3, h⟩ := sy_g_e h
  refine sy_aald fx X (sy_OSeen_a1 ht).1 g3 ((sy_OSeen_a1 ht).2 _ (sy_in_lt g3)).1 dX7_standBehind_17 ?_
  obtain ⟨r5, S4, hc6, h⟩ := sy_c_e h
  refine sy_vv (rest := []) fx hA X hl.1 (sy_OSky_o ((sy_OSeen_a1 ht).2 _ (sy_in_lt g2)).2) (sy_en9 (sy_OSky_o ((sy_OSeen_a1 ht).2 _ (sy_in_lt g2)).2).2) rfl (c_Sky_copyFrom l ((sy_OSeen_a1 ht).2 _ (sy_in_lt g2)).2 ((sy_OSeen_a1 ht).2 _ (sy_in_lt g3)).2 hc6) cv_Sky_copyFrom wm_703 ⟨Nat.le_of_ble_eq_true rfl, Nat.le_of_ble_eq_true rfl, Nat.le_refl _, Nat.le_refl _⟩ rfl rfl (Nat.le_of_ble_eq_true rfl) dX7_standBehind_18 (fun H locs X => ?_)
  refine lv_aload hx hb dX7_standBehind_21 (lv_at hl 0 rfl) ?_
  refine lv_iload_n hx hb dX7_standBehind_23 rfl (lv_at hl 3 rfl) ?_
  obtain ⟨r8, S7, hc9, h⟩ := sy_c_e h
  refine sy_vv (rest := []) fx hA X hl.1 (sy_OSky_o ((sy_OSeen_a1 ht).2 _ (sy_in_lt g2)).2) (sy_en9 (sy_OSky_o ((sy_OSeen_a1 ht).2 _ (sy_in_lt g2)).2).2) rfl (c_Sky_handTo l ((sy_OSeen_a1 ht).2 _ (sy_in_lt g2)).2 hc9) cv_Sky_handTo wm_745 ⟨Nat.le_of_ble_eq_true rfl, Nat.le_of_ble_eq_true rfl, Nat.le_refl _, Nat.le_refl _⟩ rfl rfl (Nat.le_of_ble_eq_true rfl) dX7_standBehind_24 (fun H locs X => ?_)
  refine lv_aload hx hb dX7_standBehind_27 (lv_at hl 0 rfl) ?_
  refine lv_iload_n hx hb dX7_standBehind_29 rfl (lv_at hl 4 rfl) ?_
  obtain ⟨r11, S10, hc12, h⟩ := sy_c_e h
  refine sy_vv (rest := []) fx hA X hl.1 (sy_OSky_o ((sy_OSeen_a1 ht).2 _ (sy_in_lt g2)).2) (sy_en9 (sy_OSky_o ((sy_OSeen_a1 ht).2 _ (sy_in_lt g2)).2).2) rfl (c_Sky_endHour l ((sy_OSeen_a1 ht).2 _ (sy_in_lt g2)).2 hc12) cv_Sky_endHour wm_746 ⟨Nat.le_of_ble_eq_true rfl, Nat.le_of_ble_eq_true rfl, Nat.le_refl _, Nat.le_refl _⟩ rfl rfl (Nat.le_of_ble_eq_true rfl) dX7_standBehind_30 (fun H locs X => ?_)
  exact sy_vret fx X hr hlk h dX7_standBehind_33
def m_Shift_endRow_B4 (kk4 : Int32 → Int32 → sy_St → sy_R) (y1 : Int32) (y2 : Int32) (S : sy_St) : sy_R := if 6 ≤ y2 then (if y1 < (S 370 6) then (sy_b (sy_up S 370 6 y1) fun S3 => sy_b (sy_cp S3 371 373 0 0 5) fun S4 => some (0, S4)) else (some (0, S))) else (sy_g (sy_in y2 6) <| sy_b (sy_max y1 (S 372 y2.toNatClampNeg) : Int32) fun x6 => sy_b (y2 + 1 : Int32) fun x7 => kk4 x6 x7 S)
def m_Shift_endRow (S : sy_St) : sy_R := sy_fix (fun _ _ _ => none) (m_Shift_endRow_B4) sy_F 0 0 S
set_option maxRecDepth 100000 in
set_option maxHeartbeats 40000000 in
theorem c_Shift_endRow (l : Launch) {E : sy_ET} (ht : sy_OShift E) {S S' : sy_St} {r : Int32} (h : m_Shift_endRow S = some (r, S')) : sy_MV l yX9_endRow cX9_endRow 3 1 60 [.ref (sy_ad E 370)] E S S' := by
  refine sy_MV_of RX9 pn_9 rfl (Nat.le_of_ble_eq_true rfl) (fun p e s m args below meth c A ls fx hr hlk hA X hl => ?_)
  have hx := fx.1
  have hb := fx.2.1
  have hown := fx.2.2.2.1
  have hts := fx.2.2.2.2
  have hl : lv_has ls 3 [(0, .ref (sy_ad E 370))] := hl
  have L_4 : ∀ (n4 : Nat) (y1 y2 : Int32) (S : sy_St) (H : Heap) (locs : List Loc) (ls : Array Slot), sy_Wd E A s S H locs → lv_has ls 3 [(0, .ref (sy_ad E 370)), (1, .int y1), (2, .int y2)] → sy_fix (fun _ _ _ => none) (m_Shift_endRow_B4) n4 y1 y2 S = some (r, S') → W p l e (sy_rm 1 60) s m args below meth c H locs 0 0 (MQ below (sy_Qv E A S') args s 0 0 A) (F0 m 4 ls []) := by
    intro n4
    induction n4 with
    | zero => intro y1 y2 S H locs ls X hl h; have h9 : (none : sy_R) = some (r, S') := h; cases h9
    | succ n4 ih4 =>
      intro y1 y2 S H locs ls X hl h
      have h : m_Shift_endRow_B4 (sy_fix (fun _ _ _ => none) (m_Shift_endRow_B4) n4) y1 y2 S = some (r, S') := h
      unfold m_Shift_endRow_B4 at h
      refine lv_iload_n hx hb dX9_endRow_4 rfl (lv_at hl 2 rfl) ?_
      refine lv_bipush (v := 6) hx hb dX9_endRow_5 (by decide) ?_
      refine lv_icmp_ge (tgt := 27) hx hb dX9_endRow_7 (by decide) (fun c1 => ?_) (fun c1 => ?_)
      · have h := sy_t c1 h
        refine lv_iload_n hx hb dX9_endRow_27 rfl (lv_at hl 1 rfl) ?_
        refine lv_aload_n hx hb dX9_endRow_28 rfl (lv_at hl 0 rfl) ?_
        refine sy_g8 fx X (sy_OShift_o ht) 6 (by decide) wm_694 (fun _ h9 => h9) rfl dX9_endRow_29 ?_
        refine lv_icmp_lt (tgt := 36) hx hb dX9_endRow_32 (by decide) (fun c2 => ?_) (fun c2 => ?_)
        · have h := sy_t c2 h
          refine lv_aload_n hx hb dX9_endRow_36 rfl (lv_at hl 0 rfl) ?_
          refine lv_iload_n hx hb dX9_endRow_37 rfl (lv_at hl 1 rfl) ?_
          obtain ⟨S3, hS3, h⟩ := sy_b_e h
          refine sy_p8 fx X (sy_OShift_o ht) 6 (by decide) wm_694 (fun _ h9 => h9) rfl (ty := .int) (by decide +kernel) rfl rfl hS3 sy_s8_6 dX9_endRow_38 (fun H locs X => ?_)
          refine lv_aload_n hx hb dX9_endRow_41 rfl (lv_at hl 0 rfl) ?_
          refine sy_q8 fx X (sy_OShift_o ht) 2 (by decide) wm_728 (u_same (hts _ wm_729)) rfl (sy_OShift_r2 ht) dX9_endRow_42 ?_
          refine lv_iconst (v := 0) hx hb dX9_endRow_45 (by decide) ?_
          refine lv_aload_n hx hb dX9_endRow_46 rfl (lv_at hl 0 rfl) ?_
          refine sy_q8 fx X (sy_OShift_o ht) 5 (by decide) wm_121 (fun _ h9 => h9) rfl (sy_OShift_r5 ht) dX9_endRow_47 ?_
          refine lv_iconst (v := 0) hx hb dX9_endRow_50 (by decide) ?_
          refine lv_iconst (v := 5) hx hb dX9_endRow_51 (by decide) ?_
          obtain ⟨S4, hS4, h⟩ := sy_b_e h
          refine sy_cpy (rest := []) fx X hl.1 (sy_OShift_a2 ht) (sy_OShift_a5 ht) wm_730 wm_304 wm_305 wm_306 (by decide) (by decide) (by decide) (by decide) (by decide) (Nat.le_of_ble_eq_true rfl) (by decide) hS4 dX9_endRow_52 (fun H locs X => ?_)
          exact sy_vret fx X hr hlk h dX9_endRow_55
        · have h := sy_f c2 h
          exact sy_vret fx X hr hlk h dX9_endRow_35
      · have h := sy_f c1 h
        refine lv_iload_n hx hb dX9_endRow_10 rfl (lv_at hl 1 rfl) ?_
        refine lv_aload_n hx hb dX9_endRow_11 rfl (lv_at hl 0 rfl) ?_
        refine sy_q8 fx X (sy_OShift_o ht) 3 (by decide) wm_725 (u_same (hts _ wm_726)) rfl (sy_OShift_r3 ht) dX9_endRow_12 ?_
        refine lv_iload_n hx hb dX9_endRow_15 rfl (lv_at hl 2 rfl) ?_
        obtain ⟨g5, h⟩ := sy_g_e h
        refine sy_iald fx X (sy_OShift_a3 ht) g5 dX9_endRow_16 ?_
        refine va_mmax (rest := []) hx hb (fx.2.2.1.trans hl.1.symm) hown (hts _ wm_727) (hts _ wm_413) (hts _ wm_414) (hts _ wm_415) (Nat.le_of_ble_eq_true rfl) (Nat.le_of_ble_eq_true rfl) (Nat.le_refl _) (Nat.le_refl _) dX9_endRow_17 ?_
        obtain ⟨x6, hx6, h⟩ := sy_b_e h
        refine sy_top hx6 ?_
        refine lv_istore_n (lv' := [(1, .int x6), (0, .ref (sy_ad E 370)), (2, .int y2)]) hx hb dX9_endRow_20 rfl hl (by decide) rfl (fun ls hl => ?_)
        obtain ⟨x7, hx7, h⟩ := sy_b_e h
        refine lv_iinc (v := x7) (lv' := [(2, .int x7), (1, .int x6), (0, .ref (sy_ad E 370))]) hx hb dX9_endRow_21 hl (k := 2) rfl (by rw [hx7]; rfl) (by decide) rfl (fun ls hl => ?_)
        refine lv_goto (tgt := 4) hx hb dX9_endRow_24 (by decide) ?_
        exact ih4 x6 x7 S _ _ _ X (lv_sub hl [2, 1, 0] rfl) h
  unfold m_Shift_endRow at h
  refine lv_iconst (v := 0) hx hb dX9_endRow_0 (by decide) ?_
  refine lv_istore_n (lv' := [(1, .int 0), (0, .ref (sy_ad E 370))]) hx hb dX9_endRow_1 rfl hl (by decide) rfl (fun ls hl => ?_)
  refine lv_iconst (v := 0) hx hb dX9_endRow_2 (by decide) ?_
  refine lv_istore_n (lv' := [(2, .int 0), (1, .int 0), (0, .ref (sy_ad E 370))]) hx hb dX9_endRow_3 rfl hl (by decide) rfl (fun ls hl => ?_)
  exact L_4 sy_F 0 0 S _ _ _ X (lv_sub hl [2, 1, 0] rfl) h
def m_Shift_fits (p0 : Int32) (p1 : Int32) (p2 : Int32) (S : sy_St) : sy_R := if p2 ≤ (S 370 8) then (sy_b (sy_up S 370 7 (sy_max (S 370 7) (p0 + 1))) fun S2 => sy_g (sy_in p1 6) <| if (S2 370 6) ≤ ((S2 372 p1.toNatClampNeg) + 1) then (some (0, S2)) else (some (1, S2))) else (some (0, S))
set_option maxRecDepth 100000 in
set_option maxHeartbeats 40000000 in
theorem c_Shift_fits (l : Launch) {E : sy_ET} (ht : sy_OShift E) {p0 : Int32} {p1 : Int32} {p2 : Int32} {S S' : sy_St} {r : Int32} (h : m_Shift_fits p0 p1 p2 S = some (r, S')) : sy_MI l yX9_fits cX9_fits 4 (some .boolean) 1 30 [.ref (sy_ad E 370), .int p0, .int p1, .int p2] E S r S' := by
  refine sy_MI_of RX9 pn_9 rfl (Nat.le_of_ble_eq_true rfl) (fun p e s m args below meth c A ls fx hr hlk hA X hl => ?_)
  have hx := fx.1
  have hb := fx.2.1
  have hown := fx.2.2.2.1
  have hts := fx.2.2.2.2
  have hl : lv_has ls 4 [(0, .ref (sy_ad E 370)), (1, .int p0), (2, .int p1), (3, .int p2)] := hl
  unfold m_Shift_fits at h
  refine lv_iload_n hx hb dX9_fits_0 rfl (lv_at hl 3 rfl) ?_
  refine lv_aload_n hx hb dX9_fits_1 rfl (lv_at hl 0 rfl) ?_
  refine sy_g8 fx X (sy_OShift_o ht) 8 (by decide) wm_693 (fun _ h9 => h9) rfl dX9_fits_2 ?_
  refine lv_icmp_le (tgt := 10) hx hb dX9_fits_5 (by decide) (fun c1 => ?_) (fun c1 => ?_)
  · have h := sy_t c1 h
    refine lv_aload_n hx hb dX9_fits_10 rfl (lv_at hl 0 rfl) ?_
    refine lv_aload_n hx hb dX9_fits_11 rfl (lv_at hl 0 rfl) ?_
    refine sy_g8 fx X (sy_OShift_o ht) 7 (by decide) wm_695 (fun _ h9 => h9) rfl dX9_fits_12 ?_
    refine lv_iload_n hx hb dX9_fits_15 rfl (lv_at hl 1 rfl) ?_
    refine lv_iconst (v := 1) hx hb dX9_fits_16 (by decide) ?_
    refine lv_iadd hx hb dX9_fits_17 ?_
    refine va_mmax (rest := [.ref (sy_ad E 370)]) hx hb (fx.2.2.1.trans hl.1.symm) hown (hts _ wm_727) (hts _ wm_413) (hts _ wm_414) (hts _ wm_415) (Nat.le_of_ble_eq_true rfl) (Nat.le_of_ble_eq_true rfl) (Nat.le_refl _) (Nat.le_refl _) dX9_fits_18 ?_
    obtain ⟨S2, hS2, h⟩ := sy_b_e h
    refine sy_p8 fx X (sy_OShift_o ht) 7 (by decide) wm_695 (fun _ h9 => h9) rfl (ty := .int) (by decide +kernel) rfl rfl hS2 sy_s8_7 dX9_fits_21 (fun H locs X => ?_)
    refine lv_aload_n hx hb dX9_fits_24 rfl (lv_at hl 0 rfl) ?_
    refine sy_q8 fx X (sy_OShift_o ht) 3 (by decide) wm_725 (u_same (hts _ wm_726)) rfl (sy_OShift_r3 ht) dX9_fits_25 ?_
    refine lv_iload_n hx hb dX9_fits_28 rfl (lv_at hl 2 rfl) ?_
    obtain ⟨g3, h⟩ := sy_g_e h
    refine sy_iald fx X (sy_OShift_a3 ht) g3 dX9_fits_29 ?_
    refine lv_iconst (v := 1) hx hb dX9_fits_30 (by decide) ?_
    refine lv_iadd hx hb dX9_fits_31 ?_
    refine lv_aload_n hx hb dX9_fits_32 rfl (lv_at hl 0 rfl) ?_
    refine sy_g8 fx X (sy_OShift_o ht) 6 (by decide) wm_694 (fun _ h9 => h9) rfl dX9_fits_33 ?_
    refine lv_icmp_ge (tgt := 43) hx hb dX9_fits_36 (by decide) (fun c4 => ?_) (fun c4 => ?_)
    · have h := sy_t c4 h
      refine lv_iconst (v := 0) hx hb dX9_fits_43 (by decide) ?_
      exact sy_zret fx X hr hlk (Or.inl rfl) h dX9_fits_44
    · have h := sy_f c4 h
      refine lv_iconst (v := 1) hx hb dX9_fits_39 (by decide) ?_
      refine lv_goto (tgt := 44) hx hb dX9_fits_40 (by decide) ?_
      exact sy_zret fx X hr hlk (Or.inr rfl) h dX9_fits_44
  · have h := sy_f c1 h
    refine lv_iconst (v := 0) hx hb dX9_fits_8 (by decide) ?_
    exact sy_zret fx X hr hlk (Or.inl rfl) h dX9_fits_9
def m_Rows_standBehind_h (p0 : Int32) (p1 : Int32) (p2 : Int32) (S : sy_St) : sy_R := sy_b (p0 + 1 : Int32) fun x1 => sy_g (sy_in x1 5) <| sy_g (sy_in p0 5) <| sy_c (m_Sky_copyFrom (10 + 5 * x1.toNatClampNeg) (10 + 5 * p0.toNatClampNeg) S) fun r5 S4 => sy_c (m_Sky_handTo (10 + 5 * x1.toNatClampNeg) p1 S4) fun r8 S7 => sy_c (m_Sky_endHour (10 + 5 * x1.toNatClampNeg) p2 S7) fun r11 S10 => some (0, S10)
set_option maxRecDepth 100000 in
set_option maxHeartbeats 40000000 in
theorem c_Rows_standBehind_h (l : Launch) {E : sy_ET} (ht : sy_OShift E) {p0 : Int32} {p1 : Int32} {p2 : Int32} {S S' : sy_St} {r : Int32} (h : m_Rows_standBehind_h p0 p1 p2 S = some (r, S')) : sy_MV l yX7_standBehind cX7_standBehind 5 3 81 [.ref (sy_ad E 370), .int p0, .int p1, .int p2] E S S' := by
  refine sy_MV_of RX7 pn_7 rfl (Nat.le_of_ble_eq_true rfl) (fun p e s m args below meth c A ls fx hr hlk hA X hl => ?_)
  have hx := fx.1
  have hb := fx.2.1
  have hown := fx.2.2.2.1
  have hts := fx.2.2.2.2
  have hl : lv_has ls 5 [(0, .ref (sy_ad E 370)), (1, .int p0), (2, .int p1), (3, .int p2)] := hl
  unfold m_Rows_standBehind_h at h
  refine lv_aload_n hx hb dX7_standBehind_0 rfl (lv_at hl 0 rfl) ?_
  refine sy_q8 fx X (sy_OShift_o ht) 1 (by decide) wm_130 (fun _ h9 => h9) rfl (sy_OShift_r1 ht) dX7_standBehind_1 ?_
  refine lv_iload_n hx hb dX7_standBehind_4 rfl (lv_at hl 1 rfl) ?_
  refine lv_iconst (v := 1) hx hb dX7_standBehind_5 (by decide) ?_
  refine lv_iadd hx hb dX7_standBehind_6 ?_
  obtain ⟨x1, hx1, h⟩ := sy_b_e h
  refine sy_top hx1 ?_
  obtain ⟨g2, h⟩ := sy_g_e h
  refine sy_aald fx X (sy_OShift_a1 ht).1 g2 ((sy_OShift_a1 ht).2 _ (sy_in_lt g2)).1 dX7_standBehind_7 ?_
  refine lv_astore (lv' := [(4, .ref (sy_ad E (10 + 5 * x1.toNatClampNeg))), (0, .ref (sy_ad E 370)), (1, .int p0), (2, .int p1), (3, .int p2)]) hx hb dX7_standBehind_8 hl (by decide) rfl (fun ls hl => ?_)
  refine lv_aload hx hb dX7_standBehind_10 (lv_at hl 0 rfl) ?_
  refine lv_aload_n hx hb dX7_standBehind_12 rfl (lv_at hl 1 rfl) ?_
  refine sy_q8 fx X (sy_OShift_o ht) 1 (by decide) wm_130 (fun _ h9 => h9) rfl (sy_OShift_r1 ht) dX7_standBehind_13 ?_
  refine lv_iload_n hx hb dX7_standBehind_16 rfl (lv_at hl 2 rfl) ?_
  obtain ⟨g3, h⟩ := sy_g_e h
  refine sy_aald fx X (sy_OShift_a1 ht).1 g3 ((sy_OShift_a1 ht).2 _ (sy_in_lt g3)).1 dX7_standBehind_17 ?_
  obtain ⟨r5, S4, hc6, h⟩ := sy_c_e h
  refine sy_vv (rest := []) fx hA X hl.1 (sy_OSky_o ((sy_OShift_a1 ht).2 _ (sy_in_lt g2)).2) (sy_en9 (sy_OSky_o ((sy_OShift_a1 ht).2 _ (sy_in_lt g2)).2).2) rfl (c_Sky_copyFrom l ((sy_OShift_a1 ht).2 _ (sy_in_lt g2)).2 ((sy_OShift_a1 ht).2 _ (sy_in_lt g3)).2 hc6) cv_Sky_copyFrom wm_703 ⟨Nat.le_of_ble_eq_true rfl, Nat.le_of_ble_eq_true rfl, Nat.le_refl _, Nat.le_refl _⟩ rfl rfl (Nat.le_of_ble_eq_true rfl) dX7_standBehind_18 (fun H locs X => ?_)
  refine lv_aload hx hb dX7_standBehind_21 (lv_at hl 0 rfl) ?_
  refine lv_iload_n hx hb dX7_standBehind_23 rfl (lv_at hl 3 rfl) ?_
  obtain ⟨r8, S7, hc9, h⟩ := sy_c_e h
  refine sy_vv (rest := []) fx hA X hl.1 (sy_OSky_o ((sy_OShift_a1 ht).2 _ (sy_in_lt g2)).2) (sy_en9 (sy_OSky_o ((sy_OShift_a1 ht).2 _ (sy_in_lt g2)).2).2) rfl (c_Sky_handTo l ((sy_OShift_a1 ht).2 _ (sy_in_lt g2)).2 hc9) cv_Sky_handTo wm_745 ⟨Nat.le_of_ble_eq_true rfl, Nat.le_of_ble_eq_true rfl, Nat.le_refl _, Nat.le_refl _⟩ rfl rfl (Nat.le_of_ble_eq_true rfl) dX7_standBehind_24 (fun H locs X => ?_)
  refine lv_aload hx hb dX7_standBehind_27 (lv_at hl 0 rfl) ?_
  refine lv_iload_n hx hb dX7_standBehind_29 rfl (lv_at hl 4 rfl) ?_
  obtain ⟨r11, S10, hc12, h⟩ := sy_c_e h
  refine sy_vv (rest := []) fx hA X hl.1 (sy_OSky_o ((sy_OShift_a1 ht).2 _ (sy_in_lt g2)).2) (sy_en9 (sy_OSky_o ((sy_OShift_a1 ht).2 _ (sy_in_lt g2)).2).2) rfl (c_Sky_endHour l ((sy_OShift_a1 ht).2 _ (sy_in_lt g2)).2 hc12) cv_Sky_endHour wm_746 ⟨Nat.le_of_ble_eq_true rfl, Nat.le_of_ble_eq_true rfl, Nat.le_refl _, Nat.le_refl _⟩ rfl rfl (Nat.le_of_ble_eq_true rfl) dX7_standBehind_30 (fun H locs X => ?_)
  exact sy_vret fx X hr hlk h dX7_standBehind_33
def m_Seen_add (p0 : Int32) (S : sy_St) : sy_R := if 5 ≤ (S 374 7) then (some (S 374 7, S)) else (sy_g (sy_in (S 374 7) 5) <| sy_b (sy_up S 377 ((S 374 7).toNatClampNeg) p0) fun S3 => sy_b (sy_up S3 374 7 ((S3 374 7) + 1)) fun S4 => some (S4 374 7, S4))
theorem cv_Seen_add : sy_cV RX8 yX8_add cX8_add 2 (some .int) 1 := ⟨wm_973, wm_974, wm_40, wm_975, by decide +kernel⟩
set_option maxRecDepth 100000 in
set_option maxHeartbeats 40000000 in
theorem c_Seen_add (l : Launch) {E : sy_ET} (ht : sy_OSeen E) {p0 : Int32} {S S' : sy_St} {r : Int32} (h : m_Seen_add p0 S = some (r, S')) : sy_MI l yX8_add cX8_add 2 (some .int) 0 0 [.ref (sy_ad E 374), .int p0] E S r S' := by
  refine sy_MI_of RX8 pn_8 rfl (Nat.le_of_ble_eq_true rfl) (fun p e s m args below meth c A ls fx hr hlk hA X hl => ?_)
  have hx := fx.1
  have hb := fx.2.1
  have hown := fx.2.2.2.1
  have hts := fx.2.2.2.2
  have hl : lv_has ls 2 [(0, .ref (sy_ad E 374)), (1, .int p0)] := hl
  unfold m_Seen_add at h
  refine lv_aload_n hx hb dX8_add_0 rfl (lv_at hl 0 rfl) ?_
  refine sy_g7 fx X (sy_OSeen_o ht) 7 (by decide) wm_318 (fun _ h9 => h9) rfl dX8_add_1 ?_
  refine lv_iconst (v := 5) hx hb dX8_add_4 (by decide) ?_
  refine lv_icmp_ge (tgt := 28) hx hb dX8_add_5 (by decide) (fun c1 => ?_) (fun c1 => ?_)
  · have h := sy_t c1 h
    refine lv_aload_n hx hb dX8_add_28 rfl (lv_at hl 0 rfl) ?_
    refine sy_g7 fx X (sy_OSeen_o ht) 7 (by decide) wm_318 (fun _ h9 => h9) rfl dX8_add_29 ?_
    exact sy_iret fx X hr hlk h dX8_add_32
  · have h := sy_f c1 h
    refine lv_aload_n hx hb dX8_add_8 rfl (lv_at hl 0 rfl) ?_
    refine sy_q7 fx X (sy_OSeen_o ht) 5 (by decide) wm_134 (fun _ h9 => h9) rfl (sy_OSeen_r5 ht) dX8_add_9 ?_
    refine lv_aload_n hx hb dX8_add_12 rfl (lv_at hl 0 rfl) ?_
    refine sy_g7 fx X (sy_OSeen_o ht) 7 (by decide) wm_318 (fun _ h9 => h9) rfl dX8_add_13 ?_
    refine lv_iload_n hx hb dX8_add_16 rfl (lv_at hl 1 rfl) ?_
    obtain ⟨g2, h⟩ := sy_g_e h
    obtain ⟨S3, hS3, h⟩ := sy_b_e h
    refine sy_iast fx X (sy_OSeen_a5 ht) g2 hS3 dX8_add_17 (fun H locs X => ?_)
    refine lv_aload_n hx hb dX8_add_18 rfl (lv_at hl 0 rfl) ?_
    refine lv_dup hx hb dX8_add_19 rfl ?_
    refine sy_g7 fx X (sy_OSeen_o ht) 7 (by decide) wm_318 (fun _ h9 => h9) rfl dX8_add_20 ?_
    refine lv_iconst (v := 1) hx hb dX8_add_23 (by decide) ?_
    refine lv_iadd hx hb dX8_add_24 ?_
    obtain ⟨S4, hS4, h⟩ := sy_b_e h
    refine sy_p7 fx X (sy_OSeen_o ht) 7 (by decide) wm_318 (fun _ h9 => h9) rfl (ty := .int) (by decide +kernel) rfl rfl hS4 sy_s7_7 dX8_add_25 (fun H locs X => ?_)
    refine lv_aload_n hx hb dX8_add_28 rfl (lv_at hl 0 rfl) ?_
    refine sy_g7 fx X (sy_OSeen_o ht) 7 (by decide) wm_318 (fun _ h9 => h9) rfl dX8_add_29 ?_
    exact sy_iret fx X hr hlk h dX8_add_32
def m_Seen_clear (S : sy_St) : sy_R := sy_b (sy_up S 374 7 0) fun S1 => some (0, S1)
theorem cv_Seen_clear : sy_cV RX8 yX8_clear cX8_clear 1 none 0 := ⟨wm_315, wm_316, wm_40, wm_317, by decide +kernel⟩
set_option maxRecDepth 100000 in
set_option maxHeartbeats 40000000 in
theorem c_Seen_clear (l : Launch) {E : sy_ET} (ht : sy_OSeen E) {S S' : sy_St} {r : Int32} (h : m_Seen_clear S = some (r, S')) : sy_MV l yX8_clear cX8_clear 1 0 0 [.ref (sy_ad E 374)] E S S' := by
  refine sy_MV_of RX8 pn_8 rfl (Nat.le_of_ble_eq_true rfl) (fun p e s m args below meth c A ls fx hr hlk hA X hl => ?_)
  have hx := fx.1
  have hb := fx.2.1
  have hown := fx.2.2.2.1
  have hts := fx.2.2.2.2
  have hl : lv_has ls 1 [(0, .ref (sy_ad E 374))] := hl
  unfold m_Seen_clear at h
  refine lv_aload_n hx hb dX8_clear_0 rfl (lv_at hl 0 rfl) ?_
  refine lv_iconst (v := 0) hx hb dX8_clear_1 (by decide) ?_
  obtain ⟨S1, hS1, h⟩ := sy_b_e h
  refine sy_p7 fx X (sy_OSeen_o ht) 7 (by decide) wm_318 (fun _ h9 => h9) rfl (ty := .int) (by decide +kernel) rfl rfl hS1 sy_s7_7 dX8_clear_2 (fun H locs X => ?_)
  exact sy_vret fx X hr hlk h dX8_clear_5
def m_Seen_holderAt (p0 : Int32) (S : sy_St) : sy_R := if (S 374 8) ≤ 0 then (some ((-1), S)) else (if p0 < 0 then (some ((-1), S)) else (if (S 374 4) ≤ p0 then (some ((-1), S)) else (sy_g (sy_in p0 5) <| some (S 378 p0.toNatClampNeg, S))))
theorem cv_Seen_holderAt : sy_cV RX8 yX8_holderAt cX8_holderAt 2 (some .int) 1 := ⟨wm_993, wm_994, wm_40, wm_995, by decide +kernel⟩
set_option maxRecDepth 100000 in
set_option maxHeartbeats 40000000 in
theorem c_Seen_holderAt (l : Launch) {E : sy_ET} (ht : sy_OSeen E) {p0 : Int32} {S S' : sy_St} {r : Int32} (h : m_Seen_holderAt p0 S = some (r, S')) : sy_MI l yX8_holderAt cX8_holderAt 2 (some .int) 0 0 [.ref (sy_ad E 374), .int p0] E S r S' := by
  refine sy_MI_of RX8 pn_8 rfl (Nat.le_of_ble_eq_true rfl) (fun p e s m args below meth c A ls fx hr hlk hA X hl => ?_)
  have hx := fx.1
  have hb := fx.2.1
  have hown := fx.2.2.2.1
  have hts := fx.2.2.2.2
  have hl : lv_has ls 2 [(0, .ref (sy_ad E 374)), (1, .int p0)] := hl
  unfold m_Seen_holderAt at h
  refine lv_aload_n hx hb dX8_holderAt_0 rfl (lv_at hl 0 rfl) ?_
  refine sy_g7 fx X (sy_OSeen_o ht) 8 (by decide) wm_717 (fun _ h9 => h9) rfl dX8_holderAt_1 ?_
  refine lv_if_le (tgt := 28) hx hb dX8_holderAt_4 (by decide) (fun c1 => ?_) (fun c1 => ?_)
  · have h := sy_t c1 h
    refine lv_iconst (v := (-1)) hx hb dX8_holderAt_28 (by decide) ?_
    exact sy_iret fx X hr hlk h dX8_holderAt_29
  · have h := sy_f c1 h
    refine lv_iload_n hx hb dX8_holderAt_7 rfl (lv_at hl 1 rfl) ?_
    refine lv_if_lt (tgt := 28) hx hb dX8_holderAt_8 (by decide) (fun c2 => ?_) (fun c2 => ?_)
    · have h := sy_t c2 h
      refine lv_iconst (v := (-1)) hx hb dX8_holderAt_28 (by decide) ?_
      exact sy_iret fx X hr hlk h dX8_holderAt_29
    · have h := sy_f c2 h
      refine lv_iload_n hx hb dX8_holderAt_11 rfl (lv_at hl 1 rfl) ?_
      refine lv_aload_n hx hb dX8_holderAt_12 rfl (lv_at hl 0 rfl) ?_
      refine sy_g7 fx X (sy_OSeen_o ht) 4 (by decide) wm_996 (u_same (hts _ wm_997)) rfl dX8_holderAt_13 ?_
      refine lv_icmp_ge (tgt := 28) hx hb dX8_holderAt_16 (by decide) (fun c3 => ?_) (fun c3 => ?_)
      · have h := sy_t c3 h
        refine lv_iconst (v := (-1)) hx hb dX8_holderAt_28 (by decide) ?_
        exact sy_iret fx X hr hlk h dX8_holderAt_29
      · have h := sy_f c3 h
        refine lv_aload_n hx hb dX8_holderAt_19 rfl (lv_at hl 0 rfl) ?_
        refine sy_q7 fx X (sy_OSeen_o ht) 6 (by decide) wm_135 (fun _ h9 => h9) rfl (sy_OSeen_r6 ht) dX8_holderAt_20 ?_
        refine lv_iload_n hx hb dX8_holderAt_23 rfl (lv_at hl 1 rfl) ?_
        obtain ⟨g4, h⟩ := sy_g_e h
        refine sy_iald fx X (sy_OSeen_a6 ht) g4 dX8_holderAt_24 ?_
        refine lv_goto (tgt := 29) hx hb dX8_holderAt_25 (by decide) ?_
        exact sy_iret fx X hr hlk h dX8_holderAt_29
def m_Shift_isFound (S : sy_St) : sy_R := if 5 < (S 370 6) then (some (0, S)) else (some (1, S))
theorem cv_Shift_isFound : sy_cV RX9 yX9_isFound cX9_isFound 1 (some .boolean) 0 := ⟨wm_754, wm_755, wm_36, wm_756, by decide +kernel⟩
set_option maxRecDepth 100000 in
set_option maxHeartbeats 40000000 in
theorem c_Shift_isFound (l : Launch) {E : sy_ET} (ht : sy_OShift E) {S S' : sy_St} {r : Int32} (h : m_Shift_isFound S = some (r, S')) : sy_MI l yX9_isFound cX9_isFound 1 (some .boolean) 0 0 [.ref (sy_ad E 370)] E S r S' := by
  refine sy_MI_of RX9 pn_9 rfl (Nat.le_of_ble_eq_true rfl) (fun p e s m args below meth c A ls fx hr hlk hA X hl => ?_)
  have hx := fx.1
  have hb := fx.2.1
  have hown := fx.2.2.2.1
  have hts := fx.2.2.2.2
  have hl : lv_has ls 1 [(0, .ref (sy_ad E 370))] := hl
  unfold m_Shift_isFound at h
  refine lv_aload_n hx hb dX9_isFound_0 rfl (lv_at hl 0 rfl) ?_
  refine sy_g8 fx X (sy_OShift_o ht) 6 (by decide) wm_694 (fun _ h9 => h9) rfl dX9_isFound_1 ?_
  refine lv_iconst (v := 5) hx hb dX9_isFound_4 (by decide) ?_
  refine lv_icmp_gt (tgt := 12) hx hb dX9_isFound_5 (by decide) (fun c1 => ?_) (fun c1 => ?_)
  · have h := sy_t c1 h
    refine lv_iconst (v := 0) hx hb dX9_isFound_12 (by decide) ?_
    exact sy_zret fx X hr hlk (Or.inl rfl) h dX9_isFound_13
  · have h := sy_f c1 h
    refine lv_iconst (v := 1) hx hb dX9_isFound_8 (by decide) ?_
    refine lv_goto (tgt := 13) hx hb dX9_isFound_9 (by decide) ?_
    exact sy_zret fx X hr hlk (Or.inr rfl) h dX9_isFound_13
def m_Shift_fewest (S : sy_St) : sy_R := sy_c (m_Shift_isFound S) fun r2 S1 => if r2 = 0 then (some ((-1), S1)) else (some (S1 370 6, S1))
theorem cv_Shift_fewest : sy_cV RX9 yX9_fewest cX9_fewest 1 (some .int) 0 := ⟨wm_750, wm_751, wm_36, wm_752, by decide +kernel⟩
set_option maxRecDepth 100000 in
set_option maxHeartbeats 40000000 in
theorem c_Shift_fewest (l : Launch) {E : sy_ET} (ht : sy_OShift E) {S S' : sy_St} {r : Int32} (h : m_Shift_fewest S = some (r, S')) : sy_MI l yX9_fewest cX9_fewest 1 (some .int) 1 20 [.ref (sy_ad E 370)] E S r S' := by
  refine sy_MI_of RX9 pn_9 rfl (Nat.le_of_ble_eq_true rfl) (fun p e s m args below meth c A ls fx hr hlk hA X hl => ?_)
  have hx := fx.1
  have hb := fx.2.1
  have hown := fx.2.2.2.1
  have hts := fx.2.2.2.2
  have hl : lv_has ls 1 [(0, .ref (sy_ad E 370))] := hl
  unfold m_Shift_fewest at h
  refine lv_aload_n hx hb dX9_fewest_0 rfl (lv_at hl 0 rfl) ?_
  obtain ⟨r2, S1, hc3, h⟩ := sy_c_e h
  refine sy_vi (rest := []) fx hA X hl.1 (sy_OShift_o ht) (sy_en8 (sy_OShift_o ht).2) rfl (c_Shift_isFound l ht hc3) cv_Shift_isFound wm_753 ⟨Nat.le_of_ble_eq_true rfl, Nat.le_of_ble_eq_true rfl, Nat.le_refl _, Nat.le_refl _⟩ rfl rfl (Nat.le_of_ble_eq_true rfl) dX9_fewest_1 (fun H locs X => ?_)
  refine lv_if_eq (tgt := 14) hx hb dX9_fewest_4 (by decide) (fun c4 => ?_) (fun c4 => ?_)
  · have h := sy_t c4 h
    refine lv_iconst (v := (-1)) hx hb dX9_fewest_14 (by decide) ?_
    exact sy_iret fx X hr hlk h dX9_fewest_15
  · have h := sy_f c4 h
    refine lv_aload_n hx hb dX9_fewest_7 rfl (lv_at hl 0 rfl) ?_
    refine sy_g8 fx X (sy_OShift_o ht) 6 (by decide) wm_694 (fun _ h9 => h9) rfl dX9_fewest_8 ?_
    refine lv_goto (tgt := 15) hx hb dX9_fewest_11 (by decide) ?_
    exact sy_iret fx X hr hlk h dX9_fewest_15
def m_Shift_firstSunk (S : sy_St) : sy_R := if (S 370 4) ≤ (S 370 7) then (some ((-1), S)) else (some (S 370 7, S))
theorem cv_Shift_firstSunk : sy_cV RX9 yX9_firstSunk cX9_firstSunk 1 (some .int) 0 := ⟨wm_787, wm_788, wm_36, wm_789, by decide +kernel⟩
set_option maxRecDepth 100000 in
set_option maxHeartbeats 40000000 in
theorem c_Shift_firstSunk (l : Launch) {E : sy_ET} (ht : sy_OShift E) {S S' : sy_St} {r : Int32} (h : m_Shift_firstSunk S = some (r, S')) : sy_MI l yX9_firstSunk cX9_firstSunk 1 (some .int) 0 0 [.ref (sy_ad E 370)] E S r S' := by
  refine sy_MI_of RX9 pn_9 rfl (Nat.le_of_ble_eq_true rfl) (fun p e s m args below meth c A ls fx hr hlk hA X hl => ?_)
  have hx := fx.1
  have hb := fx.2.1
  have hown := fx.2.2.2.1
  have hts := fx.2.2.2.2
  have hl : lv_has ls 1 [(0, .ref (sy_ad E 370))] := hl
  unfold m_Shift_firstSunk at h
  refine lv_aload_n hx hb dX9_firstSunk_0 rfl (lv_at hl 0 rfl) ?_
  refine sy_g8 fx X (sy_OShift_o ht) 7 (by decide) wm_695 (fun _ h9 => h9) rfl dX9_firstSunk_1 ?_
  refine lv_aload_n hx hb dX9_firstSunk_4 rfl (lv_at hl 0 rfl) ?_
  refine sy_g8 fx X (sy_OShift_o ht) 4 (by decide) wm_761 (u_same (hts _ wm_762)) rfl dX9_firstSunk_5 ?_
  refine lv_icmp_ge (tgt := 18) hx hb dX9_firstSunk_8 (by decide) (fun c1 => ?_) (fun c1 => ?_)
  · have h := sy_t c1 h
    refine lv_iconst (v := (-1)) hx hb dX9_firstSunk_18 (by decide) ?_
    exact sy_iret fx X hr hlk h dX9_firstSunk_19
  · have h := sy_f c1 h
    refine lv_aload_n hx hb dX9_firstSunk_11 rfl (lv_at hl 0 rfl) ?_
    refine sy_g8 fx X (sy_OShift_o ht) 7 (by decide) wm_695 (fun _ h9 => h9) rfl dX9_firstSunk_12 ?_
    refine lv_goto (tgt := 19) hx hb dX9_firstSunk_15 (by decide) ?_
    exact sy_iret fx X hr hlk h dX9_firstSunk_19
def m_Shift_holderAt (p0 : Int32) (S : sy_St) : sy_R := sy_c (m_Shift_isFound S) fun r2 S1 => if r2 = 0 then (some ((-1), S1)) else (if p0 < 0 then (some ((-1), S1)) else (if (S1 370 4) ≤ p0 then (some ((-1), S1)) else (sy_g (sy_in p0 5) <| some (S1 373 p0.toNatClampNeg, S1))))
theorem cv_Shift_holderAt : sy_cV RX9 yX9_holderAt cX9_holderAt 2 (some .int) 1 := ⟨wm_758, wm_759, wm_36, wm_760, by decide +kernel⟩
set_option maxRecDepth 100000 in
set_option maxHeartbeats 40000000 in
theorem c_Shift_holderAt (l : Launch) {E : sy_ET} (ht : sy_OShift E) {p0 : Int32} {S S' : sy_St} {r : Int32} (h : m_Shift_holderAt p0 S = some (r, S')) : sy_MI l yX9_holderAt cX9_holderAt 2 (some .int) 1 20 [.ref (sy_ad E 370), .int p0] E S r S' := by
  refine sy_MI_of RX9 pn_9 rfl (Nat.le_of_ble_eq_true rfl) (fun p e s m args below meth c A ls fx hr hlk hA X hl => ?_)
  have hx := fx.1
  have hb := fx.2.1
  have hown := fx.2.2.2.1
  have hts := fx.2.2.2.2
  have hl : lv_has ls 2 [(0, .ref (sy_ad E 370)), (1, .int p0)] := hl
  unfold m_Shift_holderAt at h
  refine lv_aload_n hx hb dX9_holderAt_0 rfl (lv_at hl 0 rfl) ?_
  obtain ⟨r2, S1, hc3, h⟩ := sy_c_e h
  refine sy_vi (rest := []) fx hA X hl.1 (sy_OShift_o ht) (sy_en8 (sy_OShift_o ht).2) rfl (c_Shift_isFound l ht hc3) cv_Shift_isFound wm_753 ⟨Nat.le_of_ble_eq_true rfl, Nat.le_of_ble_eq_true rfl, Nat.le_refl _, Nat.le_refl _⟩ rfl rfl (Nat.le_of_ble_eq_true rfl) dX9_holderAt_1 (fun H locs X => ?_)
  refine lv_if_eq (tgt := 28) hx hb dX9_holderAt_4 (by decide) (fun c4 => ?_) (fun c4 => ?_)
  · have h := sy_t c4 h
    refine lv_iconst (v := (-1)) hx hb dX9_holderAt_28 (by decide) ?_
    exact sy_iret fx X hr hlk h dX9_holderAt_29
  · have h := sy_f c4 h
    refine lv_iload_n hx hb dX9_holderAt_7 rfl (lv_at hl 1 rfl) ?_
    refine lv_if_lt (tgt := 28) hx hb dX9_holderAt_8 (by decide) (fun c5 => ?_) (fun c5 => ?_)
    · have h := sy_t c5 h
      refine lv_iconst (v := (-1)) hx hb dX9_holderAt_28 (by decide) ?_
      exact sy_iret fx X hr hlk h dX9_holderAt_29
    · have h := sy_f c5 h
      refine lv_iload_n hx hb dX9_holderAt_11 rfl (lv_at hl 1 rfl) ?_
      refine lv_aload_n hx hb dX9_holderAt_12 rfl (lv_at hl 0 rfl) ?_
      refine sy_g8 fx X (sy_OShift_o ht) 4 (by decide) wm_761 (u_same (hts _ wm_762)) rfl dX9_holderAt_13 ?_
      refine lv_icmp_ge (tgt := 28) hx hb dX9_holderAt_16 (by decide) (fun c6 => ?_) (fun c6 => ?_)
      · have h := sy_t c6 h
        refine lv_iconst (v := (-1)) hx hb dX9_holderAt_28 (by decide) ?_
        exact sy_iret fx X hr hlk h dX9_holderAt_29
      · have h := sy_f c6 h
        refine lv_aload_n hx hb dX9_holderAt_19 rfl (lv_at hl 0 rfl) ?_
        refine sy_q8 fx X (sy_OShift_o ht) 5 (by decide) wm_121 (fun _ h9 => h9) rfl (sy_OShift_r5 ht) dX9_holderAt_20 ?_
        refine lv_iload_n hx hb dX9_holderAt_23 rfl (lv_at hl 1 rfl) ?_
        obtain ⟨g7, h⟩ := sy_g_e h
        refine sy_iald fx X (sy_OShift_a5 ht) g7 dX9_holderAt_24 ?_
        refine lv_goto (tgt := 29) hx hb dX9_holderAt_25 (by decide) ?_
        exact sy_iret fx X hr hlk h dX9_holderAt_29
