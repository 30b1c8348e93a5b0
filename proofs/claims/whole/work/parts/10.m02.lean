def m_Game_setOdds (p0 : Int32) (p1 : Int32) (S : sy_St) : sy_R := sy_b (sy_up S 391 6 p0) fun S1 => sy_b (sy_up S1 391 7 p1) fun S2 => sy_c (m_Game_valueOf p0 p1 S2) fun r4 S3 => sy_b (sy_up S3 391 4 r4) fun S6 => sy_b (sy_up S6 391 5 p1) fun S7 => some (0, S7)
theorem cv_Game_setOdds : sy_cV RX4 yX4_setOdds cX4_setOdds 3 none 2 := ⟨wm_930, wm_931, wm_56, wm_932, by decide +kernel⟩
set_option maxRecDepth 100000 in
set_option maxHeartbeats 40000000 in
theorem c_Game_setOdds (l : Launch) {E : sy_ET} (ht : sy_OGame E) {p0 : Int32} {p1 : Int32} {S S' : sy_St} {r : Int32} (h : m_Game_setOdds p0 p1 S = some (r, S')) : sy_MV l yX4_setOdds cX4_setOdds 3 2 54 [.ref (sy_ad E 391), .int p0, .int p1] E S S' := by
  refine sy_MV_of RX4 pn_4 rfl (Nat.le_of_ble_eq_true rfl) (fun p e s m args below meth c A ls fx hr hlk hA X hl => ?_)
  have hx := fx.1
  have hb := fx.2.1
  have hown := fx.2.2.2.1
  have hts := fx.2.2.2.2
  have hl : lv_has ls 3 [(0, .ref (sy_ad E 391)), (1, .int p0), (2, .int p1)] := hl
  unfold m_Game_setOdds at h
  refine lv_aload_n hx hb dX4_setOdds_0 rfl (lv_at hl 0 rfl) ?_
  refine lv_iload_n hx hb dX4_setOdds_1 rfl (lv_at hl 1 rfl) ?_
  obtain ⟨S1, hS1, h⟩ := sy_b_e h
  refine sy_p4 fx X (sy_OGame_o ht) 6 (by decide) wm_927 (fun _ h9 => h9) rfl (ty := .int) (by decide +kernel) rfl rfl hS1 sy_s4_6 dX4_setOdds_2 (fun H locs X => ?_)
  refine lv_aload_n hx hb dX4_setOdds_5 rfl (lv_at hl 0 rfl) ?_
  refine lv_iload_n hx hb dX4_setOdds_6 rfl (lv_at hl 2 rfl) ?_
  obtain ⟨S2, hS2, h⟩ := sy_b_e h
  refine sy_p4 fx X (sy_OGame_o ht) 7 (by decide) wm_928 (fun _ h9 => h9) rfl (ty := .int) (by decide +kernel) rfl rfl hS2 sy_s4_7 dX4_setOdds_7 (fun H locs X => ?_)
  refine lv_aload_n hx hb dX4_setOdds_10 rfl (lv_at hl 0 rfl) ?_
  refine lv_aload_n hx hb dX4_setOdds_11 rfl (lv_at hl 0 rfl) ?_
  refine lv_iload_n hx hb dX4_setOdds_12 rfl (lv_at hl 1 rfl) ?_
  refine lv_iload_n hx hb dX4_setOdds_13 rfl (lv_at hl 2 rfl) ?_
  obtain ⟨r4, S3, hc5, h⟩ := sy_c_e h
  refine sy_vi (rest := [.ref (sy_ad E 391)]) fx hA X hl.1 (sy_OGame_o ht) (sy_en4 (sy_OGame_o ht).2) rfl (c_Game_valueOf l ht hc5) cv_Game_valueOf wm_933 ⟨Nat.le_of_ble_eq_true rfl, Nat.le_of_ble_eq_true rfl, Nat.le_refl _, Nat.le_refl _⟩ rfl rfl (Nat.le_of_ble_eq_true rfl) dX4_setOdds_14 (fun H locs X => ?_)
  obtain ⟨S6, hS6, h⟩ := sy_b_e h
  refine sy_p4 fx X (sy_OGame_o ht) 4 (by decide) wm_925 (fun _ h9 => h9) rfl (ty := .int) (by decide +kernel) rfl rfl hS6 sy_s4_4 dX4_setOdds_17 (fun H locs X => ?_)
  refine lv_aload_n hx hb dX4_setOdds_20 rfl (lv_at hl 0 rfl) ?_
  refine lv_iload_n hx hb dX4_setOdds_21 rfl (lv_at hl 2 rfl) ?_
  obtain ⟨S7, hS7, h⟩ := sy_b_e h
  refine sy_p4 fx X (sy_OGame_o ht) 5 (by decide) wm_926 (fun _ h9 => h9) rfl (ty := .int) (by decide +kernel) rfl rfl hS7 sy_s4_5 dX4_setOdds_22 (fun H locs X => ?_)
  exact sy_vret fx X hr hlk h dX4_setOdds_25
def m_Game_tryOdds (p0 : Int32) (p1 : Int32) (S : sy_St) : sy_R := sy_c (m_Game_valueOf p0 p1 S) fun r2 S1 => if (r2 * (S1 391 5)) ≤ ((S1 391 4) * p1) then (some (0, S1)) else (sy_c (m_Game_setOdds p0 p1 S1) fun r6 S5 => some (0, S5))
theorem cv_Game_tryOdds : sy_cV RX4 yX4_tryOdds cX4_tryOdds 3 none 2 := ⟨wm_944, wm_945, wm_56, wm_946, by decide +kernel⟩
set_option maxRecDepth 100000 in
set_option maxHeartbeats 40000000 in
theorem c_Game_tryOdds (l : Launch) {E : sy_ET} (ht : sy_OGame E) {p0 : Int32} {p1 : Int32} {S S' : sy_St} {r : Int32} (h : m_Game_tryOdds p0 p1 S = some (r, S')) : sy_MV l yX4_tryOdds cX4_tryOdds 3 3 76 [.ref (sy_ad E 391), .int p0, .int p1] E S S' := by
  refine sy_MV_of RX4 pn_4 rfl (Nat.le_of_ble_eq_true rfl) (fun p e s m args below meth c A ls fx hr hlk hA X hl => ?_)
  have hx := fx.1
  have hb := fx.2.1
  have hown := fx.2.2.2.1
  have hts := fx.2.2.2.2
  have hl : lv_has ls 3 [(0, .ref (sy_ad E 391)), (1, .int p0), (2, .int p1)] := hl
  unfold m_Game_tryOdds at h
  refine lv_aload_n hx hb dX4_tryOdds_0 rfl (lv_at hl 0 rfl) ?_
  refine lv_iload_n hx hb dX4_tryOdds_1 rfl (lv_at hl 1 rfl) ?_
  refine lv_iload_n hx hb dX4_tryOdds_2 rfl (lv_at hl 2 rfl) ?_
  obtain ⟨r2, S1, hc3, h⟩ := sy_c_e h
  refine sy_vi (rest := []) fx hA X hl.1 (sy_OGame_o ht) (sy_en4 (sy_OGame_o ht).2) rfl (c_Game_valueOf l ht hc3) cv_Game_valueOf wm_933 ⟨Nat.le_of_ble_eq_true rfl, Nat.le_of_ble_eq_true rfl, Nat.le_refl _, Nat.le_refl _⟩ rfl rfl (Nat.le_of_ble_eq_true rfl) dX4_tryOdds_3 (fun H locs X => ?_)
  refine lv_aload_n hx hb dX4_tryOdds_6 rfl (lv_at hl 0 rfl) ?_
  refine sy_g4 fx X (sy_OGame_o ht) 5 (by decide) wm_926 (fun _ h9 => h9) rfl dX4_tryOdds_7 ?_
  refine lv_imul hx hb dX4_tryOdds_10 ?_
  refine lv_aload_n hx hb dX4_tryOdds_11 rfl (lv_at hl 0 rfl) ?_
  refine sy_g4 fx X (sy_OGame_o ht) 4 (by decide) wm_925 (fun _ h9 => h9) rfl dX4_tryOdds_12 ?_
  refine lv_iload_n hx hb dX4_tryOdds_15 rfl (lv_at hl 2 rfl) ?_
  refine lv_imul hx hb dX4_tryOdds_16 ?_
  refine lv_icmp_le (tgt := 26) hx hb dX4_tryOdds_17 (by decide) (fun c4 => ?_) (fun c4 => ?_)
  · have h := sy_t c4 h
    exact sy_vret fx X hr hlk h dX4_tryOdds_26
  · have h := sy_f c4 h
    refine lv_aload_n hx hb dX4_tryOdds_20 rfl (lv_at hl 0 rfl) ?_
    refine lv_iload_n hx hb dX4_tryOdds_21 rfl (lv_at hl 1 rfl) ?_
    refine lv_iload_n hx hb dX4_tryOdds_22 rfl (lv_at hl 2 rfl) ?_
    obtain ⟨r6, S5, hc7, h⟩ := sy_c_e h
    refine sy_vv (rest := []) fx hA X hl.1 (sy_OGame_o ht) (sy_en4 (sy_OGame_o ht).2) rfl (c_Game_setOdds l ht hc7) cv_Game_setOdds wm_929 ⟨Nat.le_of_ble_eq_true rfl, Nat.le_of_ble_eq_true rfl, Nat.le_refl _, Nat.le_refl _⟩ rfl rfl (Nat.le_of_ble_eq_true rfl) dX4_tryOdds_23 (fun H locs X => ?_)
    exact sy_vret fx X hr hlk h dX4_tryOdds_26
def m_Game_tryEvenOdds_J15 (y3 : Int32) (t0 : Int32) (S : sy_St) : sy_R := if t0 ≤ 0 then (some (0, S)) else (if y3 ≤ t0 then (some (0, S)) else (sy_c (m_Game_tryOdds t0 y3 S) fun r6 S5 => some (0, S5)))
def m_Game_tryEvenOdds (p0 : Int32) (p1 : Int32) (S : sy_St) : sy_R := sy_b (sy_abs p0 : Int32) fun x1 => if 0 ≤ p0 then (m_Game_tryEvenOdds_J15 x1 p1 S) else (m_Game_tryEvenOdds_J15 x1 (-p1) S)
theorem cv_Game_tryEvenOdds : sy_cV RX4 yX4_tryEvenOdds cX4_tryEvenOdds 5 none 2 := ⟨wm_939, wm_940, wm_56, wm_941, by decide +kernel⟩
set_option maxRecDepth 100000 in
set_option maxHeartbeats 40000000 in
theorem c_Game_tryEvenOdds (l : Launch) {E : sy_ET} (ht : sy_OGame E) {p0 : Int32} {p1 : Int32} {S S' : sy_St} {r : Int32} (h : m_Game_tryEvenOdds p0 p1 S = some (r, S')) : sy_MV l yX4_tryEvenOdds cX4_tryEvenOdds 5 4 98 [.ref (sy_ad E 391), .int p0, .int p1] E S S' := by
  refine sy_MV_of RX4 pn_4 rfl (Nat.le_of_ble_eq_true rfl) (fun p e s m args below meth c A ls fx hr hlk hA X hl => ?_)
  have hx := fx.1
  have hb := fx.2.1
  have hown := fx.2.2.2.1
  have hts := fx.2.2.2.2
  have hl : lv_has ls 5 [(0, .ref (sy_ad E 391)), (1, .int p0), (2, .int p1)] := hl
  have J_15 : ∀ (y3 t0 : Int32) (S : sy_St) (H : Heap) (locs : List Loc) (ls : Array Slot), sy_Wd E A s S H locs → lv_has ls 5 [(0, .ref (sy_ad E 391)), (3, .int y3)] → m_Game_tryEvenOdds_J15 y3 t0 S = some (r, S') → W p l e (sy_rm 4 98) s m args below meth c H locs 0 0 (MQ below (sy_Qv E A S') args s 0 0 A) (F0 m 15 ls [.int t0]) := by
    intro y3 t0 S H locs ls X hl h
    unfold m_Game_tryEvenOdds_J15 at h
    refine lv_istore (lv' := [(4, .int t0), (0, .ref (sy_ad E 391)), (3, .int y3)]) hx hb dX4_tryEvenOdds_15 hl (by decide) rfl (fun ls hl => ?_)
    refine lv_iload hx hb dX4_tryEvenOdds_17 (lv_at hl 0 rfl) ?_
    refine lv_if_le (tgt := 35) hx hb dX4_tryEvenOdds_19 (by decide) (fun c3 => ?_) (fun c3 => ?_)
    · have h := sy_t c3 h
      exact sy_vret fx X hr hlk h dX4_tryEvenOdds_35
    · have h := sy_f c3 h
      refine lv_iload hx hb dX4_tryEvenOdds_22 (lv_at hl 0 rfl) ?_
      refine lv_iload_n hx hb dX4_tryEvenOdds_24 rfl (lv_at hl 2 rfl) ?_
      refine lv_icmp_ge (tgt := 35) hx hb dX4_tryEvenOdds_25 (by decide) (fun c4 => ?_) (fun c4 => ?_)
      · have h := sy_t c4 h
        exact sy_vret fx X hr hlk h dX4_tryEvenOdds_35
      · have h := sy_f c4 h
        refine lv_aload_n hx hb dX4_tryEvenOdds_28 rfl (lv_at hl 1 rfl) ?_
        refine lv_iload hx hb dX4_tryEvenOdds_29 (lv_at hl 0 rfl) ?_
        refine lv_iload_n hx hb dX4_tryEvenOdds_31 rfl (lv_at hl 2 rfl) ?_
        obtain ⟨r6, S5, hc7, h⟩ := sy_c_e h
        refine sy_vv (rest := []) fx hA X hl.1 (sy_OGame_o ht) (sy_en4 (sy_OGame_o ht).2) rfl (c_Game_tryOdds l ht hc7) cv_Game_tryOdds wm_943 ⟨Nat.le_of_ble_eq_true rfl, Nat.le_of_ble_eq_true rfl, Nat.le_refl _, Nat.le_refl _⟩ rfl rfl (Nat.le_of_ble_eq_true rfl) dX4_tryEvenOdds_32 (fun H locs X => ?_)
        exact sy_vret fx X hr hlk h dX4_tryEvenOdds_35
  unfold m_Game_tryEvenOdds at h
  refine lv_iload_n hx hb dX4_tryEvenOdds_0 rfl (lv_at hl 1 rfl) ?_
  refine va_mabs (rest := []) hx hb (fx.2.2.1.trans hl.1.symm) hown (hts _ wm_942) (hts _ wm_623) (hts _ wm_414) (hts _ wm_624) (Nat.le_of_ble_eq_true rfl) (Nat.le_of_ble_eq_true rfl) (Nat.le_refl _) (Nat.le_refl _) dX4_tryEvenOdds_1 ?_
  obtain ⟨x1, hx1, h⟩ := sy_b_e h
  refine sy_top hx1 ?_
  refine lv_istore_n (lv' := [(3, .int x1), (0, .ref (sy_ad E 391)), (1, .int p0), (2, .int p1)]) hx hb dX4_tryEvenOdds_4 rfl hl (by decide) rfl (fun ls hl => ?_)
  refine lv_iload_n hx hb dX4_tryEvenOdds_5 rfl (lv_at hl 2 rfl) ?_
  refine lv_if_ge (tgt := 14) hx hb dX4_tryEvenOdds_6 (by decide) (fun c2 => ?_) (fun c2 => ?_)
  · have h := sy_t c2 h
    refine lv_iload_n hx hb dX4_tryEvenOdds_14 rfl (lv_at hl 3 rfl) ?_
    exact J_15 x1 p1 S _ _ _ X (lv_sub hl [1, 0] rfl) h
  · have h := sy_f c2 h
    refine lv_iload_n hx hb dX4_tryEvenOdds_9 rfl (lv_at hl 3 rfl) ?_
    refine lv_ineg hx hb dX4_tryEvenOdds_10 ?_
    refine lv_goto (tgt := 15) hx hb dX4_tryEvenOdds_11 (by decide) ?_
    exact J_15 x1 (-p1) S _ _ _ X (lv_sub hl [1, 0] rfl) h
def m_Game_solve (p0 : Int32) (p1 : Int32) (p2 : Int32) (p3 : Int32) (S : sy_St) : sy_R := sy_b (sy_up S 391 0 p0) fun S1 => sy_b (sy_up S1 391 1 p1) fun S2 => sy_b (sy_up S2 391 2 p2) fun S3 => sy_b (sy_up S3 391 3 p3) fun S4 => sy_c (m_Game_setOdds 0 1 S4) fun r6 S5 => sy_c (m_Game_tryEvenOdds (((p0 - p1) - p2) + p3) (p3 - p2) S5) fun r9 S8 => sy_c (m_Game_tryOdds 1 1 S8) fun r12 S11 => sy_c (m_Game_greatestCommonPart (S11 391 4) (S11 391 5) S11) fun r15 S14 => sy_g (¬ r15 = 0) <| sy_b (sy_up S14 391 4 ((S14 391 4) / r15)) fun S18 => sy_g (¬ r15 = 0) <| sy_b (sy_up S18 391 5 ((S18 391 5) / r15)) fun S20 => sy_c (m_Game_greatestCommonPart (S20 391 6) (S20 391 7) S20) fun r22 S21 => sy_g (¬ r22 = 0) <| sy_b (sy_up S21 391 6 ((S21 391 6) / r22)) fun S25 => sy_g (¬ r22 = 0) <| sy_b (sy_up S25 391 7 ((S25 391 7) / r22)) fun S27 => some (0, S27)
theorem cv_Game_solve : sy_cV RX4 yX4_solve cX4_solve 7 none 4 := ⟨wm_918, wm_919, wm_56, wm_920, by decide +kernel⟩
set_option maxRecDepth 100000 in
set_option maxHeartbeats 40000000 in
theorem c_Game_solve (l : Launch) {E : sy_ET} (ht : sy_OGame E) {p0 : Int32} {p1 : Int32} {p2 : Int32} {p3 : Int32} {S S' : sy_St} {r : Int32} (h : m_Game_solve p0 p1 p2 p3 S = some (r, S')) : sy_MV l yX4_solve cX4_solve 7 5 122 [.ref (sy_ad E 391), .int p0, .int p1, .int p2, .int p3] E S S' := by
  refine sy_MV_of RX4 pn_4 rfl (Nat.le_of_ble_eq_true rfl) (fun p e s m args below meth c A ls fx hr hlk hA X hl => ?_)
  have hx := fx.1
  have hb := fx.2.1
  have hown := fx.2.2.2.1
  have hts := fx.2.2.2.2
  have hl : lv_has ls 7 [(0, .ref (sy_ad E 391)), (1, .int p0), (2, .int p1), (3, .int p2), (4, .int p3)] := hl
  unfold m_Game_solve at h
  refine lv_aload_n hx hb dX4_solve_0 rfl (lv_at hl 0 rfl) ?_
  refine lv_iload_n hx hb dX4_solve_1 rfl (lv_at hl 1 rfl) ?_
  obtain ⟨S1, hS1, h⟩ := sy_b_e h
  refine sy_p4 fx X (sy_OGame_o ht) 0 (by decide) wm_921 (fun _ h9 => h9) rfl (ty := .int) (by decide +kernel) rfl rfl hS1 sy_s4_0 dX4_solve_2 (fun H locs X => ?_)
  refine lv_aload_n hx hb dX4_solve_5 rfl (lv_at hl 0 rfl) ?_
  refine lv_iload_n hx hb dX4_solve_6 rfl (lv_at hl 2 rfl) ?_
  obtain ⟨S2, hS2, h⟩ := sy_b_e h
  refine sy_p4 fx X (sy_OGame_o ht) 1 (by decide) wm_922 (fun _ h9 => h9) rfl (ty := .int) (by decide +kernel) rfl rfl hS2 sy_s4_1 dX4_solve_7 (fun H locs X => ?_)
  refine lv_aload_n hx hb dX4_solve_10 rfl (lv_at hl 0 rfl) ?_
  refine lv_iload_n hx hb dX4_solve_11 rfl (lv_at hl 3 rfl) ?_
  obtain ⟨S3, hS3, h⟩ := sy_b_e h
  refine sy_p4 fx X (sy_OGame_o ht) 2 (by decide) wm_923 (fun _ h9 => h9) rfl (ty := .int) (by decide +kernel) rfl rfl hS3 sy_s4_2 dX4_solve_12 (fun H locs X => ?_)
  refine lv_aload_n hx hb dX4_solve_15 rfl (lv_at hl 0 rfl) ?_
  refine lv_iload hx hb dX4_solve_16 (lv_at hl 4 rfl) ?_
  obtain ⟨S4, hS4, h⟩ := sy_b_e h
  refine sy_p4 fx X (sy_OGame_o ht) 3 (by decide) wm_924 (fun _ h9 => h9) rfl (ty := .int) (by decide +kernel) rfl rfl hS4 sy_s4_3 dX4_solve_18 (fun H locs X => ?_)
  refine lv_aload_n hx hb dX4_solve_21 rfl (lv_at hl 0 rfl) ?_
  refine lv_iconst (v := 0) hx hb dX4_solve_22 (by decide) ?_
  refine lv_iconst (v := 1) hx hb dX4_solve_23 (by decide) ?_
  obtain ⟨r6, S5, hc7, h⟩ := sy_c_e h
  refine sy_vv (rest := []) fx hA X hl.1 (sy_OGame_o ht) (sy_en4 (sy_OGame_o ht).2) rfl (c_Game_setOdds l ht hc7) cv_Game_setOdds wm_929 ⟨Nat.le_of_ble_eq_true rfl, Nat.le_of_ble_eq_true rfl, Nat.le_refl _, Nat.le_refl _⟩ rfl rfl (Nat.le_of_ble_eq_true rfl) dX4_solve_24 (fun H locs X => ?_)
  refine lv_aload_n hx hb dX4_solve_27 rfl (lv_at hl 0 rfl) ?_
  refine lv_iload_n hx hb dX4_solve_28 rfl (lv_at hl 1 rfl) ?_
  refine lv_iload_n hx hb dX4_solve_29 rfl (lv_at hl 2 rfl) ?_
  refine lv_isub hx hb dX4_solve_30 ?_
  refine lv_iload_n hx hb dX4_solve_31 rfl (lv_at hl 3 rfl) ?_
  refine lv_isub hx hb dX4_solve_32 ?_
  refine lv_iload hx hb dX4_solve_33 (lv_at hl 4 rfl) ?_
  refine lv_iadd hx hb dX4_solve_35 ?_
  refine lv_iload hx hb dX4_solve_36 (lv_at hl 4 rfl) ?_
  refine lv_iload_n hx hb dX4_solve_38 rfl (lv_at hl 3 rfl) ?_
  refine lv_isub hx hb dX4_solve_39 ?_
  obtain ⟨r9, S8, hc10, h⟩ := sy_c_e h
  refine sy_vv (rest := []) fx hA X hl.1 (sy_OGame_o ht) (sy_en4 (sy_OGame_o ht).2) rfl (c_Game_tryEvenOdds l ht hc10) cv_Game_tryEvenOdds wm_938 ⟨Nat.le_of_ble_eq_true rfl, Nat.le_of_ble_eq_true rfl, Nat.le_refl _, Nat.le_refl _⟩ rfl rfl (Nat.le_of_ble_eq_true rfl) dX4_solve_40 (fun H locs X => ?_)
  refine lv_aload_n hx hb dX4_solve_43 rfl (lv_at hl 0 rfl) ?_
  refine lv_iconst (v := 1) hx hb dX4_solve_44 (by decide) ?_
  refine lv_iconst (v := 1) hx hb dX4_solve_45 (by decide) ?_
  obtain ⟨r12, S11, hc13, h⟩ := sy_c_e h
  refine sy_vv (rest := []) fx hA X hl.1 (sy_OGame_o ht) (sy_en4 (sy_OGame_o ht).2) rfl (c_Game_tryOdds l ht hc13) cv_Game_tryOdds wm_943 ⟨Nat.le_of_ble_eq_true rfl, Nat.le_of_ble_eq_true rfl, Nat.le_refl _, Nat.le_refl _⟩ rfl rfl (Nat.le_of_ble_eq_true rfl) dX4_solve_46 (fun H locs X => ?_)
  refine lv_aload_n hx hb dX4_solve_49 rfl (lv_at hl 0 rfl) ?_
  refine sy_g4 fx X (sy_OGame_o ht) 4 (by decide) wm_925 (fun _ h9 => h9) rfl dX4_solve_50 ?_
  refine lv_aload_n hx hb dX4_solve_53 rfl (lv_at hl 0 rfl) ?_
  refine sy_g4 fx X (sy_OGame_o ht) 5 (by decide) wm_926 (fun _ h9 => h9) rfl dX4_solve_54 ?_
  obtain ⟨r15, S14, hc16, h⟩ := sy_c_e h
  refine sy_si (rest := []) fx hA X hl.1 (c_Game_greatestCommonPart l hc16) cv_Game_greatestCommonPart wm_947 ⟨Nat.le_of_ble_eq_true rfl, Nat.le_of_ble_eq_true rfl, Nat.le_refl _, Nat.le_refl _⟩ rfl rfl (Nat.le_of_ble_eq_true rfl) dX4_solve_57 (fun H locs X => ?_)
  refine lv_istore (lv' := [(5, .int r15), (0, .ref (sy_ad E 391)), (1, .int p0), (2, .int p1), (3, .int p2), (4, .int p3)]) hx hb dX4_solve_60 hl (by decide) rfl (fun ls hl => ?_)
  refine lv_aload_n hx hb dX4_solve_62 rfl (lv_at hl 1 rfl) ?_
  refine lv_dup hx hb dX4_solve_63 rfl ?_
  refine sy_g4 fx X (sy_OGame_o ht) 4 (by decide) wm_925 (fun _ h9 => h9) rfl dX4_solve_64 ?_
  refine lv_iload hx hb dX4_solve_67 (lv_at hl 0 rfl) ?_
  obtain ⟨g17, h⟩ := sy_g_e h
  refine lv_idiv hx hb dX4_solve_69 g17 ?_
  obtain ⟨S18, hS18, h⟩ := sy_b_e h
  refine sy_p4 fx X (sy_OGame_o ht) 4 (by decide) wm_925 (fun _ h9 => h9) rfl (ty := .int) (by decide +kernel) rfl rfl hS18 sy_s4_4 dX4_solve_70 (fun H locs X => ?_)
  refine lv_aload_n hx hb dX4_solve_73 rfl (lv_at hl 1 rfl) ?_
  refine lv_dup hx hb dX4_solve_74 rfl ?_
  refine sy_g4 fx X (sy_OGame_o ht) 5 (by decide) wm_926 (fun _ h9 => h9) rfl dX4_solve_75 ?_
  refine lv_iload hx hb dX4_solve_78 (lv_at hl 0 rfl) ?_
  obtain ⟨g19, h⟩ := sy_g_e h
  refine lv_idiv hx hb dX4_solve_80 g19 ?_
  obtain ⟨S20, hS20, h⟩ := sy_b_e h
  refine sy_p4 fx X (sy_OGame_o ht) 5 (by decide) wm_926 (fun _ h9 => h9) rfl (ty := .int) (by decide +kernel) rfl rfl hS20 sy_s4_5 dX4_solve_81 (fun H locs X => ?_)
  refine lv_aload_n hx hb dX4_solve_84 rfl (lv_at hl 1 rfl) ?_
  refine sy_g4 fx X (sy_OGame_o ht) 6 (by decide) wm_927 (fun _ h9 => h9) rfl dX4_solve_85 ?_
  refine lv_aload_n hx hb dX4_solve_88 rfl (lv_at hl 1 rfl) ?_
  refine sy_g4 fx X (sy_OGame_o ht) 7 (by decide) wm_928 (fun _ h9 => h9) rfl dX4_solve_89 ?_
  obtain ⟨r22, S21, hc23, h⟩ := sy_c_e h
  refine sy_si (rest := []) fx hA X hl.1 (c_Game_greatestCommonPart l hc23) cv_Game_greatestCommonPart wm_947 ⟨Nat.le_of_ble_eq_true rfl, Nat.le_of_ble_eq_true rfl, Nat.le_refl _, Nat.le_refl _⟩ rfl rfl (Nat.le_of_ble_eq_true rfl) dX4_solve_92 (fun H locs X => ?_)
  refine lv_istore (lv' := [(6, .int r22), (5, .int r15), (0, .ref (sy_ad E 391)), (1, .int p0), (2, .int p1), (3, .int p2), (4, .int p3)]) hx hb dX4_solve_95 hl (by decide) rfl (fun ls hl => ?_)
  refine lv_aload_n hx hb dX4_solve_97 rfl (lv_at hl 2 rfl) ?_
  refine lv_dup hx hb dX4_solve_98 rfl ?_
  refine sy_g4 fx X (sy_OGame_o ht) 6 (by decide) wm_927 (fun _ h9 => h9) rfl dX4_solve_99 ?_
  refine lv_iload hx hb dX4_solve_102 (lv_at hl 0 rfl) ?_
  obtain ⟨g24, h⟩ := sy_g_e h
  refine lv_idiv hx hb dX4_solve_104 g24 ?_
  obtain ⟨S25, hS25, h⟩ := sy_b_e h
  refine sy_p4 fx X (sy_OGame_o ht) 6 (by decide) wm_927 (fun _ h9 => h9) rfl (ty := .int) (by decide +kernel) rfl rfl hS25 sy_s4_6 dX4_solve_105 (fun H locs X => ?_)
  refine lv_aload_n hx hb dX4_solve_108 rfl (lv_at hl 2 rfl) ?_
  refine lv_dup hx hb dX4_solve_109 rfl ?_
  refine sy_g4 fx X (sy_OGame_o ht) 7 (by decide) wm_928 (fun _ h9 => h9) rfl dX4_solve_110 ?_
  refine lv_iload hx hb dX4_solve_113 (lv_at hl 0 rfl) ?_
  obtain ⟨g26, h⟩ := sy_g_e h
  refine lv_idiv hx hb dX4_solve_115 g26 ?_
  obtain ⟨S27, hS27, h⟩ := sy_b_e h
  refine sy_p4 fx X (sy_OGame_o ht) 7 (by decide) wm_928 (fun _ h9 => h9) rfl (ty := .int) (by decide +kernel) rfl rfl hS27 sy_s4_7 dX4_solve_116 (fun H locs X => ?_)
  exact sy_vret fx X hr hlk h dX4_solve_119
def m_Sky_copyFrom (k : Nat) (k0 : Nat) (S : sy_St) : sy_R := sy_b (sy_cp S (k0 + 1) (k + 1) 0 0 6) fun S1 => sy_b (sy_cp S1 (k0 + 2) (k + 2) 0 0 6) fun S2 => sy_b (sy_cp S2 (k0 + 3) (k + 3) 0 0 6) fun S3 => sy_b (sy_cp S3 (k0 + 4) (k + 4) 0 0 6) fun S4 => sy_b (sy_up S4 k 5 (S4 k0 5)) fun S5 => sy_b (sy_up S5 k 6 (S5 k0 6)) fun S6 => sy_b (sy_up S6 k 7 (S6 k0 7)) fun S7 => sy_b (sy_up S7 k 8 (S7 k0 8)) fun S8 => sy_b (sy_up S8 k 9 (S8 k0 9)) fun S9 => sy_b (sy_up S9 k 10 (S9 k0 10)) fun S10 => some (0, S10)
theorem cv_Sky_copyFrom : sy_cV RX10 yX10_copyFrom cX10_copyFrom 2 none 1 := ⟨wm_495, wm_496, wm_17, wm_497, by decide +kernel⟩
set_option maxRecDepth 100000 in
set_option maxHeartbeats 40000000 in
theorem c_Sky_copyFrom (l : Launch) {E : sy_ET} {k : Nat} {k0 : Nat} (ht : sy_OSky E k) (h0 : sy_OSky E k0) {S S' : sy_St} {r : Int32} (h : m_Sky_copyFrom k k0 S = some (r, S')) : sy_MV l yX10_copyFrom cX10_copyFrom 2 1 60 [.ref (sy_ad E k), .ref (sy_ad E k0)] E S S' := by
  refine sy_MV_of RX10 pn_10 rfl (Nat.le_of_ble_eq_true rfl) (fun p e s m args below meth c A ls fx hr hlk hA X hl => ?_)
  have hx := fx.1
  have hb := fx.2.1
  have hown := fx.2.2.2.1
  have hts := fx.2.2.2.2
  have hl : lv_has ls 2 [(0, .ref (sy_ad E k)), (1, .ref (sy_ad E k0))] := hl
  unfold m_Sky_copyFrom at h
  refine lv_aload_n hx hb dX10_copyFrom_0 rfl (lv_at hl 1 rfl) ?_
  refine sy_q9 fx X (sy_OSky_o h0) 1 (by decide) wm_86 (fun _ h9 => h9) rfl (sy_OSky_r1 h0) dX10_copyFrom_1 ?_
  refine lv_iconst (v := 0) hx hb dX10_copyFrom_4 (by decide) ?_
  refine lv_aload_n hx hb dX10_copyFrom_5 rfl (lv_at hl 0 rfl) ?_
  refine sy_q9 fx X (sy_OSky_o ht) 1 (by decide) wm_86 (fun _ h9 => h9) rfl (sy_OSky_r1 ht) dX10_copyFrom_6 ?_
  refine lv_iconst (v := 0) hx hb dX10_copyFrom_9 (by decide) ?_
  refine lv_bipush (v := 6) hx hb dX10_copyFrom_10 (by decide) ?_
  obtain ⟨S1, hS1, h⟩ := sy_b_e h
  refine sy_cpy (rest := []) fx X hl.1 (sy_OSky_a1 h0) (sy_OSky_a1 ht) wm_498 wm_304 wm_305 wm_306 (by decide) (by decide) (by decide) (by decide) (by decide) (Nat.le_of_ble_eq_true rfl) (by decide) hS1 dX10_copyFrom_12 (fun H locs X => ?_)
  refine lv_aload_n hx hb dX10_copyFrom_15 rfl (lv_at hl 1 rfl) ?_
  refine sy_q9 fx X (sy_OSky_o h0) 2 (by decide) wm_87 (fun _ h9 => h9) rfl (sy_OSky_r2 h0) dX10_copyFrom_16 ?_
  refine lv_iconst (v := 0) hx hb dX10_copyFrom_19 (by decide) ?_
  refine lv_aload_n hx hb dX10_copyFrom_20 rfl (lv_at hl 0 rfl) ?_
  refine sy_q9 fx X (sy_OSky_o ht) 2 (by decide) wm_87 (fun _ h9 => h9) rfl (sy_OSky_r2 ht) dX10_copyFrom_21 ?_
  refine lv_iconst (v := 0) hx hb dX10_copyFrom_24 (by decide) ?_
  refine lv_bipush (v := 6) hx hb dX10_copyFrom_25 (by decide) ?_
  obtain ⟨S2, hS2, h⟩ := sy_b_e h
  refine sy_cpy (rest := []) fx X hl.1 (sy_OSky_a2 h0) (sy_OSky_a2 ht) wm_498 wm_304 wm_305 wm_306 (by decide) (by decide) (by decide) (by decide) (by decide) (Nat.le_of_ble_eq_true rfl) (by decide) hS2 dX10_copyFrom_27 (fun H locs X => ?_)
  refine lv_aload_n hx hb dX10_copyFrom_30 rfl (lv_at hl 1 rfl) ?_
  refine sy_q9 fx X (sy_OSky_o h0) 3 (by decide) wm_88 (fun _ h9 => h9) rfl (sy_OSky_r3 h0) dX10_copyFrom_31 ?_
  refine lv_iconst (v := 0) hx hb dX10_copyFrom_34 (by decide) ?_
  refine lv_aload_n hx hb dX10_copyFrom_35 rfl (lv_at hl 0 rfl) ?_
  refine sy_q9 fx X (sy_OSky_o ht) 3 (by decide) wm_88 (fun _ h9 => h9) rfl (sy_OSky_r3 ht) dX10_copyFrom_36 ?_
  refine lv_iconst (v := 0) hx hb dX10_copyFrom_39 (by decide) ?_
  refine lv_bipush (v := 6) hx hb dX10_copyFrom_40 (by decide) ?_
  obtain ⟨S3, hS3, h⟩ := sy_b_e h
  refine sy_cpy (rest := []) fx X hl.1 (sy_OSky_a3 h0) (sy_OSky_a3 ht) wm_498 wm_304 wm_305 wm_306 (by decide) (by decide) (by decide) (by decide) (by decide) (Nat.le_of_ble_eq_true rfl) (by decide) hS3 dX10_copyFrom_42 (fun H locs X => ?_)
  refine lv_aload_n hx hb dX10_copyFrom_45 rfl (lv_at hl 1 rfl) ?_
  refine sy_q9 fx X (sy_OSky_o h0) 4 (by decide) wm_89 (fun _ h9 => h9) rfl (sy_OSky_r4 h0) dX10_copyFrom_46 ?_
  refine lv_iconst (v := 0) hx hb dX10_copyFrom_49 (by decide) ?_
  refine lv_aload_n hx hb dX10_copyFrom_50 rfl (lv_at hl 0 rfl) ?_
  refine sy_q9 fx X (sy_OSky_o ht) 4 (by decide) wm_89 (fun _ h9 => h9) rfl (sy_OSky_r4 ht) dX10_copyFrom_51 ?_
  refine lv_iconst (v := 0) hx hb dX10_copyFrom_54 (by decide) ?_
  refine lv_bipush (v := 6) hx hb dX10_copyFrom_55 (by decide) ?_
  obtain ⟨S4, hS4, h⟩ := sy_b_e h
  refine sy_cpy (rest := []) fx X hl.1 (sy_OSky_a4 h0) (sy_OSky_a4 ht) wm_498 wm_304 wm_305 wm_306 (by decide) (by decide) (by decide) (by decide) (by decide) (Nat.le_of_ble_eq_true rfl) (by decide) hS4 dX10_copyFrom_57 (fun H locs X => ?_)
  refine lv_aload_n hx hb dX10_copyFrom_60 rfl (lv_at hl 0 rfl) ?_
  refine lv_aload_n hx hb dX10_copyFrom_61 rfl (lv_at hl 1 rfl) ?_
  refine sy_g9 fx X (sy_OSky_o h0) 5 (by decide) wm_95 (fun _ h9 => h9) rfl dX10_copyFrom_62 ?_
  obtain ⟨S5, hS5, h⟩ := sy_b_e h
  refine sy_p9 fx X (sy_OSky_o ht) 5 (by decide) wm_95 (fun _ h9 => h9) rfl (ty := .int) (by decide +kernel) rfl rfl hS5 sy_s9_5 dX10_copyFrom_65 (fun H locs X => ?_)
  refine lv_aload_n hx hb dX10_copyFrom_68 rfl (lv_at hl 0 rfl) ?_
  refine lv_aload_n hx hb dX10_copyFrom_69 rfl (lv_at hl 1 rfl) ?_
  refine sy_g9 fx X (sy_OSky_o h0) 6 (by decide) wm_96 (fun _ h9 => h9) rfl dX10_copyFrom_70 ?_
  obtain ⟨S6, hS6, h⟩ := sy_b_e h
  refine sy_p9 fx X (sy_OSky_o ht) 6 (by decide) wm_96 (fun _ h9 => h9) rfl (ty := .int) (by decide +kernel) rfl rfl hS6 sy_s9_6 dX10_copyFrom_73 (fun H locs X => ?_)
  refine lv_aload_n hx hb dX10_copyFrom_76 rfl (lv_at hl 0 rfl) ?_
  refine lv_aload_n hx hb dX10_copyFrom_77 rfl (lv_at hl 1 rfl) ?_
  refine sy_g9 fx X (sy_OSky_o h0) 7 (by decide) wm_97 (fun _ h9 => h9) rfl dX10_copyFrom_78 ?_
  obtain ⟨S7, hS7, h⟩ := sy_b_e h
  refine sy_p9 fx X (sy_OSky_o ht) 7 (by decide) wm_97 (fun _ h9 => h9) rfl (ty := .int) (by decide +kernel) rfl rfl hS7 sy_s9_7 dX10_copyFrom_81 (fun H locs X => ?_)
  refine lv_aload_n hx hb dX10_copyFrom_84 rfl (lv_at hl 0 rfl) ?_
  refine lv_aload_n hx hb dX10_copyFrom_85 rfl (lv_at hl 1 rfl) ?_
  refine sy_g9 fx X (sy_OSky_o h0) 8 (by decide) wm_99 (fun _ h9 => h9) rfl dX10_copyFrom_86 ?_
  obtain ⟨S8, hS8, h⟩ := sy_b_e h
  refine sy_p9 fx X (sy_OSky_o ht) 8 (by decide) wm_99 (fun _ h9 => h9) rfl (ty := .int) (by decide +kernel) rfl rfl hS8 sy_s9_8 dX10_copyFrom_89 (fun H locs X => ?_)
  refine lv_aload_n hx hb dX10_copyFrom_92 rfl (lv_at hl 0 rfl) ?_
  refine lv_aload_n hx hb dX10_copyFrom_93 rfl (lv_at hl 1 rfl) ?_
  refine sy_g9 fx X (sy_OSky_o h0) 9 (by decide) wm_101 (fun _ h9 => h9) rfl dX10_copyFrom_94 ?_
  obtain ⟨S9, hS9, h⟩ := sy_b_e h
  refine sy_p9 fx X (sy_OSky_o ht) 9 (by decide) wm_101 (fun _ h9 => h9) rfl (ty := .int) (by decide +kernel) rfl rfl hS9 sy_s9_9 dX10_copyFrom_97 (fun H locs X => ?_)
  refine lv_aload_n hx hb dX10_copyFrom_100 rfl (lv_at hl 0 rfl) ?_
  refine lv_aload_n hx hb dX10_copyFrom_101 rfl (lv_at hl 1 rfl) ?_
  refine sy_g9 fx X (sy_OSky_o h0) 10 (by decide) wm_102 (fun _ h9 => h9) rfl dX10_copyFrom_102 ?_
  obtain ⟨S10, hS10, h⟩ := sy_b_e h
  refine sy_p9 fx X (sy_OSky_o ht) 10 (by decide) wm_102 (fun _ h9 => h9) rfl (ty := .int) (by decide +kernel) rfl rfl hS10 sy_s9_10 dX10_copyFrom_105 (fun H locs X => ?_)
  exact sy_vret fx X hr hlk h dX10_copyFrom_108
def m_Past_add (k0 : Nat) (S : sy_St) : sy_R := sy_b (S 55 2 : Int32) fun x1 => sy_g (sy_in x1 60) <| sy_c (m_Sky_copyFrom (57 + 5 * x1.toNatClampNeg) k0 S) fun r4 S3 => sy_b (sy_up S3 55 2 (((S3 55 2) + 1) - ((S3 55 2) + 1) / 60 * 60)) fun S6 => sy_b (sy_up S6 55 1 (sy_min 60 ((S6 55 1) + 1))) fun S7 => some (0, S7)
theorem cv_Past_add : sy_cV RX5 yX5_add cX5_add 2 none 1 := ⟨wm_488, wm_489, wm_27, wm_490, by decide +kernel⟩
set_option maxRecDepth 100000 in
set_option maxHeartbeats 40000000 in
theorem c_Past_add (l : Launch) {E : sy_ET} {k0 : Nat} (ht : sy_OPast E) (h0 : sy_OSky E k0) {S S' : sy_St} {r : Int32} (h : m_Past_add k0 S = some (r, S')) : sy_MV l yX5_add cX5_add 2 2 81 [.ref (sy_ad E 55), .ref (sy_ad E k0)] E S S' := by
  refine sy_MV_of RX5 pn_5 rfl (Nat.le_of_ble_eq_true rfl) (fun p e s m args below meth c A ls fx hr hlk hA X hl => ?_)
  have hx := fx.1
  have hb := fx.2.1
  have hown := fx.2.2.2.1
  have hts := fx.2.2.2.2
  have hl : lv_has ls 2 [(0, .ref (sy_ad E 55)), (1, .ref (sy_ad E k0))] := hl
  unfold m_Past_add at h
  refine lv_aload_n hx hb dX5_add_0 rfl (lv_at hl 0 rfl) ?_
  refine sy_q5 fx X (sy_OPast_o ht) 0 (by decide) wm_116 (fun _ h9 => h9) rfl (sy_OPast_r0 ht) dX5_add_1 ?_
  refine lv_aload_n hx hb dX5_add_4 rfl (lv_at hl 0 rfl) ?_
  refine sy_g5 fx X (sy_OPast_o ht) 2 (by decide) wm_313 (fun _ h9 => h9) rfl dX5_add_5 ?_
  obtain ⟨x1, hx1, h⟩ := sy_b_e h
  refine sy_top hx1 ?_
  obtain ⟨g2, h⟩ := sy_g_e h
  refine sy_aald fx X (sy_OPast_a0 ht).1 g2 ((sy_OPast_a0 ht).2 _ (sy_in_lt g2)).1 dX5_add_8 ?_
  refine lv_aload_n hx hb dX5_add_9 rfl (lv_at hl 1 rfl) ?_
  obtain ⟨r4, S3, hc5, h⟩ := sy_c_e h
  refine sy_vv (rest := []) fx hA X hl.1 (sy_OSky_o ((sy_OPast_a0 ht).2 _ (sy_in_lt g2)).2) (sy_en9 (sy_OSky_o ((sy_OPast_a0 ht).2 _ (sy_in_lt g2)).2).2) rfl (c_Sky_copyFrom l ((sy_OPast_a0 ht).2 _ (sy_in_lt g2)).2 h0 hc5) cv_Sky_copyFrom wm_494 ⟨Nat.le_of_ble_eq_true rfl, Nat.le_of_ble_eq_true rfl, Nat.le_refl _, Nat.le_refl _⟩ rfl rfl (Nat.le_of_ble_eq_true rfl) dX5_add_10 (fun H locs X => ?_)
  refine lv_aload_n hx hb dX5_add_13 rfl (lv_at hl 0 rfl) ?_
  refine lv_aload_n hx hb dX5_add_14 rfl (lv_at hl 0 rfl) ?_
  refine sy_g5 fx X (sy_OPast_o ht) 2 (by decide) wm_313 (fun _ h9 => h9) rfl dX5_add_15 ?_
  refine lv_iconst (v := 1) hx hb dX5_add_18 (by decide) ?_
  refine lv_iadd hx hb dX5_add_19 ?_
  refine lv_bipush (v := 60) hx hb dX5_add_20 (by decide) ?_
  refine lv_irem hx hb dX5_add_22 (by decide) ?_
  obtain ⟨S6, hS6, h⟩ := sy_b_e h
  refine sy_p5 fx X (sy_OPast_o ht) 2 (by decide) wm_313 (fun _ h9 => h9) rfl (ty := .int) (by decide +kernel) rfl rfl hS6 sy_s5_2 dX5_add_23 (fun H locs X => ?_)
  refine lv_aload_n hx hb dX5_add_26 rfl (lv_at hl 0 rfl) ?_
  refine lv_bipush (v := 60) hx hb dX5_add_27 (by decide) ?_
  refine lv_aload_n hx hb dX5_add_29 rfl (lv_at hl 0 rfl) ?_
  refine sy_g5 fx X (sy_OPast_o ht) 1 (by decide) wm_312 (fun _ h9 => h9) rfl dX5_add_30 ?_
  refine lv_iconst (v := 1) hx hb dX5_add_33 (by decide) ?_
  refine lv_iadd hx hb dX5_add_34 ?_
  refine va_mmin (rest := [.ref (sy_ad E 55)]) hx hb (fx.2.2.1.trans hl.1.symm) hown (hts _ wm_491) (hts _ wm_492) (hts _ wm_414) (hts _ wm_493) (Nat.le_of_ble_eq_true rfl) (Nat.le_of_ble_eq_true rfl) (Nat.le_refl _) (Nat.le_refl _) dX5_add_35 ?_
  obtain ⟨S7, hS7, h⟩ := sy_b_e h
  refine sy_p5 fx X (sy_OPast_o ht) 1 (by decide) wm_312 (fun _ h9 => h9) rfl (ty := .int) (by decide +kernel) rfl rfl hS7 sy_s5_1 dX5_add_38 (fun H locs X => ?_)
  exact sy_vret fx X hr hlk h dX5_add_41
def m_Past_forget (S : sy_St) : sy_R := sy_b (sy_up S 55 1 0) fun S1 => sy_b (sy_up S1 55 2 0) fun S2 => some (0, S2)
theorem cv_Past_forget : sy_cV RX5 yX5_forget cX5_forget 1 none 0 := ⟨wm_309, wm_310, wm_27, wm_311, by decide +kernel⟩
set_option maxRecDepth 100000 in
set_option maxHeartbeats 40000000 in
theorem c_Past_forget (l : Launch) {E : sy_ET} (ht : sy_OPast E) {S S' : sy_St} {r : Int32} (h : m_Past_forget S = some (r, S')) : sy_MV l yX5_forget cX5_forget 1 0 0 [.ref (sy_ad E 55)] E S S' := by
  refine sy_MV_of RX5 pn_5 rfl (Nat.le_of_ble_eq_true rfl) (fun p e s m args below meth c A ls fx hr hlk hA X hl => ?_)
  have hx := fx.1
  have hb := fx.2.1
  have hown := fx.2.2.2.1
  have hts := fx.2.2.2.2
  have hl : lv_has ls 1 [(0, .ref (sy_ad E 55))] := hl
  unfold m_Past_forget at h
  refine lv_aload_n hx hb dX5_forget_0 rfl (lv_at hl 0 rfl) ?_
  refine lv_iconst (v := 0) hx hb dX5_forget_1 (by decide) ?_
  obtain ⟨S1, hS1, h⟩ := sy_b_e h
  refine sy_p5 fx X (sy_OPast_o ht) 1 (by decide) wm_312 (fun _ h9 => h9) rfl (ty := .int) (by decide +kernel) rfl rfl hS1 sy_s5_1 dX5_forget_2 (fun H locs X => ?_)
  refine lv_aload_n hx hb dX5_forget_5 rfl (lv_at hl 0 rfl) ?_
  refine lv_iconst (v := 0) hx hb dX5_forget_6 (by decide) ?_
  obtain ⟨S2, hS2, h⟩ := sy_b_e h
  refine sy_p5 fx X (sy_OPast_o ht) 2 (by decide) wm_313 (fun _ h9 => h9) rfl (ty := .int) (by decide +kernel) rfl rfl hS2 sy_s5_2 dX5_forget_7 (fun H locs X => ?_)
  exact sy_vret fx X hr hlk h dX5_forget_10
def m_Past_takeBack (k0 : Nat) (p1 : Int32) (S : sy_St) : sy_R := if p1 < 1 then (some (0, S)) else (if p1 ≤ (S 55 1) then (sy_b (sy_up S 55 2 ((((S 55 2) + 60) - p1) - (((S 55 2) + 60) - p1) / 60 * 60)) fun S3 => sy_b (sy_up S3 55 1 ((S3 55 1) - p1)) fun S4 => sy_b (S4 55 2 : Int32) fun x5 => sy_g (sy_in x5 60) <| sy_c (m_Sky_copyFrom k0 (57 + 5 * x5.toNatClampNeg) S4) fun r8 S7 => some (0, S7)) else (some (0, S)))
theorem cv_Past_takeBack : sy_cV RX5 yX5_takeBack cX5_takeBack 3 none 2 := ⟨wm_675, wm_676, wm_27, wm_677, by decide +kernel⟩
set_option maxRecDepth 100000 in
set_option maxHeartbeats 40000000 in
theorem c_Past_takeBack (l : Launch) {E : sy_ET} {k0 : Nat} (ht : sy_OPast E) (h0 : sy_OSky E k0) {p1 : Int32} {S S' : sy_St} {r : Int32} (h : m_Past_takeBack k0 p1 S = some (r, S')) : sy_MV l yX5_takeBack cX5_takeBack 3 2 81 [.ref (sy_ad E 55), .ref (sy_ad E k0), .int p1] E S S' := by
  refine sy_MV_of RX5 pn_5 rfl (Nat.le_of_ble_eq_true rfl) (fun p e s m args below meth c A ls fx hr hlk hA X hl => ?_)
  have hx := fx.1
  have hb := fx.2.1
  have hown := fx.2.2.2.1
  have hts := fx.2.2.2.2
  have hl : lv_has ls 3 [(0, .ref (sy_ad E 55)), (1, .ref (sy_ad E k0)), (2, .int p1)] := hl
  unfold m_Past_takeBack at h
  refine lv_iload_n hx hb dX5_takeBack_0 rfl (lv_at hl 2 rfl) ?_
  refine lv_iconst (v := 1) hx hb dX5_takeBack_1 (by decide) ?_
  refine lv_icmp_lt (tgt := 13) hx hb dX5_takeBack_2 (by decide) (fun c1 => ?_) (fun c1 => ?_)
  · have h := sy_t c1 h
    exact sy_vret fx X hr hlk h dX5_takeBack_13
  · have h := sy_f c1 h
    refine lv_iload_n hx hb dX5_takeBack_5 rfl (lv_at hl 2 rfl) ?_
    refine lv_aload_n hx hb dX5_takeBack_6 rfl (lv_at hl 0 rfl) ?_
    refine sy_g5 fx X (sy_OPast_o ht) 1 (by decide) wm_312 (fun _ h9 => h9) rfl dX5_takeBack_7 ?_
    refine lv_icmp_le (tgt := 14) hx hb dX5_takeBack_10 (by decide) (fun c2 => ?_) (fun c2 => ?_)
    · have h := sy_t c2 h
      refine lv_aload_n hx hb dX5_takeBack_14 rfl (lv_at hl 0 rfl) ?_
      refine lv_aload_n hx hb dX5_takeBack_15 rfl (lv_at hl 0 rfl) ?_
      refine sy_g5 fx X (sy_OPast_o ht) 2 (by decide) wm_313 (fun _ h9 => h9) rfl dX5_takeBack_16 ?_
      refine lv_bipush (v := 60) hx hb dX5_takeBack_19 (by decide) ?_
      refine lv_iadd hx hb dX5_takeBack_21 ?_
      refine lv_iload_n hx hb dX5_takeBack_22 rfl (lv_at hl 2 rfl) ?_
      refine lv_isub hx hb dX5_takeBack_23 ?_
      refine lv_bipush (v := 60) hx hb dX5_takeBack_24 (by decide) ?_
      refine lv_irem hx hb dX5_takeBack_26 (by decide) ?_
      obtain ⟨S3, hS3, h⟩ := sy_b_e h
      refine sy_p5 fx X (sy_OPast_o ht) 2 (by decide) wm_313 (fun _ h9 => h9) rfl (ty := .int) (by decide +kernel) rfl rfl hS3 sy_s5_2 dX5_takeBack_27 (fun H locs X => ?_)
      refine lv_aload_n hx hb dX5_takeBack_30 rfl (lv_at hl 0 rfl) ?_
      refine lv_dup hx hb dX5_takeBack_31 rfl ?_
      refine sy_g5 fx X (sy_OPast_o ht) 1 (by decide) wm_312 (fun _ h9 => h9) rfl dX5_takeBack_32 ?_
      refine lv_iload_n hx hb dX5_takeBack_35 rfl (lv_at hl 2 rfl) ?_
      refine lv_isub hx hb dX5_takeBack_36 ?_
      obtain ⟨S4, hS4, h⟩ := sy_b_e h
      refine sy_p5 fx X (sy_OPast_o ht) 1 (by decide) wm_312 (fun _ h9 => h9) rfl (ty := .int) (by decide +kernel) rfl rfl hS4 sy_s5_1 dX5_takeBack_37 (fun H locs X => ?_)
      refine lv_aload_n hx hb dX5_takeBack_40 rfl (lv_at hl 1 rfl) ?_
      refine lv_aload_n hx hb dX5_takeBack_41 rfl (lv_at hl 0 rfl) ?_
      refine sy_q5 fx X (sy_OPast_o ht) 0 (by decide) wm_116 (fun _ h9 => h9) rfl (sy_OPast_r0 ht) dX5_takeBack_42 ?_
      refine lv_aload_n hx hb dX5_takeBack_45 rfl (lv_at hl 0 rfl) ?_
      refine sy_g5 fx X (sy_OPast_o ht) 2 (by decide) wm_313 (fun _ h9 => h9) rfl dX5_takeBack_46 ?_
      obtain ⟨x5, hx5, h⟩ := sy_b_e h
      refine sy_top hx5 ?_
      obtain ⟨g6, h⟩ := sy_g_e h
      refine sy_aald fx X (sy_OPast_a0 ht).1 g6 ((sy_OPast_a0 ht).2 _ (sy_in_lt g6)).1 dX5_takeBack_49 ?_
      obtain ⟨r8, S7, hc9, h⟩ := sy_c_e h
      refine sy_vv (rest := []) fx hA X hl.1 (sy_OSky_o h0) (sy_en9 (sy_OSky_o h0).2) rfl (c_Sky_copyFrom l h0 ((sy_OPast_a0 ht).2 _ (sy_in_lt g6)).2 hc9) cv_Sky_copyFrom wm_494 ⟨Nat.le_of_ble_eq_true rfl, Nat.le_of_ble_eq_true rfl, Nat.le_refl _, Nat.le_refl _⟩ rfl rfl (Nat.le_of_ble_eq_true rfl) dX5_takeBack_50 (fun H locs X => ?_)
      exact sy_vret fx X hr hlk h dX5_takeBack_53
    · have h := sy_f c2 h
      exact sy_vret fx X hr hlk h dX5_takeBack_13
def m_Reader_add (p0 : Int32) (S : sy_St) : sy_R := if 250 ≤ (S 35 2) then (some (S 35 2, S)) else (sy_g (sy_in (S 35 2) 250) <| sy_b (sy_up S 36 ((S 35 2).toNatClampNeg) p0) fun S3 => sy_b (sy_up S3 35 2 ((S3 35 2) + 1)) fun S4 => some (S4 35 2, S4))
theorem cv_Reader_add : sy_cV RX6 yX6_add cX6_add 2 (some .int) 1 := ⟨wm_200, wm_201, wm_21, wm_202, by decide +kernel⟩
set_option maxRecDepth 100000 in
set_option maxHeartbeats 40000000 in
theorem c_Reader_add (l : Launch) {E : sy_ET} (ht : sy_OReader E) {p0 : Int32} {S S' : sy_St} {r : Int32} (h : m_Reader_add p0 S = some (r, S')) : sy_MI l yX6_add cX6_add 2 (some .int) 0 0 [.ref (sy_ad E 35), .int p0] E S r S' := by
  refine sy_MI_of RX6 pn_6 rfl (Nat.le_of_ble_eq_true rfl) (fun p e s m args below meth c A ls fx hr hlk hA X hl => ?_)
  have hx := fx.1
  have hb := fx.2.1
  have hown := fx.2.2.2.1
  have hts := fx.2.2.2.2
  have hl : lv_has ls 2 [(0, .ref (sy_ad E 35)), (1, .int p0)] := hl
  unfold m_Reader_add at h
  refine lv_aload_n hx hb dX6_add_0 rfl (lv_at hl 0 rfl) ?_
  refine sy_g6 fx X (sy_OReader_o ht) 2 (by decide) wm_203 (fun _ h9 => h9) rfl dX6_add_1 ?_
  refine lv_sipush (v := 250) hx hb dX6_add_4 (by decide) ?_
  refine lv_icmp_ge (tgt := 30) hx hb dX6_add_7 (by decide) (fun c1 => ?_) (fun c1 => ?_)
  · have h := sy_t c1 h
    refine lv_aload_n hx hb dX6_add_30 rfl (lv_at hl 0 rfl) ?_
    refine sy_g6 fx X (sy_OReader_o ht) 2 (by decide) wm_203 (fun _ h9 => h9) rfl dX6_add_31 ?_
    exact sy_iret fx X hr hlk h dX6_add_34
  · have h := sy_f c1 h
    refine lv_aload_n hx hb dX6_add_10 rfl (lv_at hl 0 rfl) ?_
    refine sy_q6 fx X (sy_OReader_o ht) 0 (by decide) wm_106 (fun _ h9 => h9) rfl (sy_OReader_r0 ht) dX6_add_11 ?_
    refine lv_aload_n hx hb dX6_add_14 rfl (lv_at hl 0 rfl) ?_
    refine sy_g6 fx X (sy_OReader_o ht) 2 (by decide) wm_203 (fun _ h9 => h9) rfl dX6_add_15 ?_
    refine lv_iload_n hx hb dX6_add_18 rfl (lv_at hl 1 rfl) ?_
    obtain ⟨g2, h⟩ := sy_g_e h
    obtain ⟨S3, hS3, h⟩ := sy_b_e h
    refine sy_iast fx X (sy_OReader_a0 ht) g2 hS3 dX6_add_19 (fun H locs X => ?_)
    refine lv_aload_n hx hb dX6_add_20 rfl (lv_at hl 0 rfl) ?_
    refine lv_dup hx hb dX6_add_21 rfl ?_
    refine sy_g6 fx X (sy_OReader_o ht) 2 (by decide) wm_203 (fun _ h9 => h9) rfl dX6_add_22 ?_
    refine lv_iconst (v := 1) hx hb dX6_add_25 (by decide) ?_
    refine lv_iadd hx hb dX6_add_26 ?_
    obtain ⟨S4, hS4, h⟩ := sy_b_e h
    refine sy_p6 fx X (sy_OReader_o ht) 2 (by decide) wm_203 (fun _ h9 => h9) rfl (ty := .int) (by decide +kernel) rfl rfl hS4 sy_s6_2 dX6_add_27 (fun H locs X => ?_)
    refine lv_aload_n hx hb dX6_add_30 rfl (lv_at hl 0 rfl) ?_
    refine sy_g6 fx X (sy_OReader_o ht) 2 (by decide) wm_203 (fun _ h9 => h9) rfl dX6_add_31 ?_
    exact sy_iret fx X hr hlk h dX6_add_34
def m_Reader_fail (p0 : Int32) (p1 : Int32) (S : sy_St) : sy_R := if (S 35 3) = 0 then (sy_b (sy_up S 35 3 p0) fun S2 => sy_b (sy_up S2 35 4 p1) fun S3 => some (0, S3)) else (some (0, S))
theorem cv_Reader_fail : sy_cV RX6 yX6_fail cX6_fail 3 none 2 := ⟨wm_249, wm_250, wm_21, wm_251, by decide +kernel⟩
set_option maxRecDepth 100000 in
set_option maxHeartbeats 40000000 in
theorem c_Reader_fail (l : Launch) {E : sy_ET} (ht : sy_OReader E) {p0 : Int32} {p1 : Int32} {S S' : sy_St} {r : Int32} (h : m_Reader_fail p0 p1 S = some (r, S')) : sy_MV l yX6_fail cX6_fail 3 0 0 [.ref (sy_ad E 35), .int p0, .int p1] E S S' := by
  refine sy_MV_of RX6 pn_6 rfl (Nat.le_of_ble_eq_true rfl) (fun p e s m args below meth c A ls fx hr hlk hA X hl => ?_)
  have hx := fx.1
  have hb := fx.2.1
  have hown := fx.2.2.2.1
  have hts := fx.2.2.2.2
  have hl : lv_has ls 3 [(0, .ref (sy_ad E 35)), (1, .int p0), (2, .int p1)] := hl
  unfold m_Reader_fail at h
  refine lv_aload_n hx hb dX6_fail_0 rfl (lv_at hl 0 rfl) ?_
  refine sy_g6 fx X (sy_OReader_o ht) 3 (by decide) wm_226 (fun _ h9 => h9) rfl dX6_fail_1 ?_
  refine lv_if_eq (tgt := 8) hx hb dX6_fail_4 (by decide) (fun c1 => ?_) (fun c1 => ?_)
  · have h := sy_t c1 h
    refine lv_aload_n hx hb dX6_fail_8 rfl (lv_at hl 0 rfl) ?_
    refine lv_iload_n hx hb dX6_fail_9 rfl (lv_at hl 1 rfl) ?_
    obtain ⟨S2, hS2, h⟩ := sy_b_e h
    refine sy_p6 fx X (sy_OReader_o ht) 3 (by decide) wm_226 (fun _ h9 => h9) rfl (ty := .int) (by decide +kernel) rfl rfl hS2 sy_s6_3 dX6_fail_10 (fun H locs X => ?_)
    refine lv_aload_n hx hb dX6_fail_13 rfl (lv_at hl 0 rfl) ?_
    refine lv_iload_n hx hb dX6_fail_14 rfl (lv_at hl 2 rfl) ?_
    obtain ⟨S3, hS3, h⟩ := sy_b_e h
    refine sy_p6 fx X (sy_OReader_o ht) 4 (by decide) wm_109 (fun _ h9 => h9) rfl (ty := .int) (by decide +kernel) rfl rfl hS3 sy_s6_4 dX6_fail_15 (fun H locs X => ?_)
    exact sy_vret fx X hr hlk h dX6_fail_18
  · have h := sy_f c1 h
    exact sy_vret fx X hr hlk h dX6_fail_7
def m_Reader_skipBlanks_B0 (kk0 : sy_St → sy_R) (S : sy_St) : sy_R := if (S 35 2) ≤ (S 35 5) then (some (0, S)) else (sy_b (S 35 5 : Int32) fun x2 => sy_g (sy_in x2 250) <| if (S 36 x2.toNatClampNeg) = 32 then (sy_b (sy_up S 35 5 ((S 35 5) + 1)) fun S5 => kk0 S5) else (some (0, S)))
def m_Reader_skipBlanks (S : sy_St) : sy_R := sy_fix (fun _ => none) (m_Reader_skipBlanks_B0) sy_F S
theorem cv_Reader_skipBlanks : sy_cV RX6 yX6_skipBlanks cX6_skipBlanks 1 none 0 := ⟨wm_236, wm_237, wm_21, wm_238, by decide +kernel⟩
set_option maxRecDepth 100000 in
set_option maxHeartbeats 40000000 in
theorem c_Reader_skipBlanks (l : Launch) {E : sy_ET} (ht : sy_OReader E) {S S' : sy_St} {r : Int32} (h : m_Reader_skipBlanks S = some (r, S')) : sy_MV l yX6_skipBlanks cX6_skipBlanks 1 0 0 [.ref (sy_ad E 35)] E S S' := by
  refine sy_MV_of RX6 pn_6 rfl (Nat.le_of_ble_eq_true rfl) (fun p e s m args below meth c A ls fx hr hlk hA X hl => ?_)
  have hx := fx.1
  have hb := fx.2.1
  have hown := fx.2.2.2.1
  have hts := fx.2.2.2.2
  have hl : lv_has ls 1 [(0, .ref (sy_ad E 35))] := hl
  have L_0 : ∀ (n0 : Nat) (S : sy_St) (H : Heap) (locs : List Loc) (ls : Array Slot), sy_Wd E A s S H locs → lv_has ls 1 [(0, .ref (sy_ad E 35))] → sy_fix (fun _ => none) (m_Reader_skipBlanks_B0) n0 S = some (r, S') → W p l e (sy_rm 0 0) s m args below meth c H locs 0 0 (MQ below (sy_Qv E A S') args s 0 0 A) (F0 m 0 ls []) := by
    intro n0
    induction n0 with
    | zero => intro  S H locs ls X hl h; have h9 : (none : sy_R) = some (r, S') := h; cases h9
    | succ n0 ih0 =>
      intro  S H locs ls X hl h
      have h : m_Reader_skipBlanks_B0 (sy_fix (fun _ => none) (m_Reader_skipBlanks_B0) n0) S = some (r, S') := h
      unfold m_Reader_skipBlanks_B0 at h
      refine lv_aload_n hx hb dX6_skipBlanks_0 rfl (lv_at hl 0 rfl) ?_
      refine sy_g6 fx X (sy_OReader_o ht) 5 (by decide) wm_227 (fun _ h9 => h9) rfl dX6_skipBlanks_1 ?_
      refine lv_aload_n hx hb dX6_skipBlanks_4 rfl (lv_at hl 0 rfl) ?_
      refine sy_g6 fx X (sy_OReader_o ht) 2 (by decide) wm_203 (fun _ h9 => h9) rfl dX6_skipBlanks_5 ?_
      refine lv_icmp_ge (tgt := 38) hx hb dX6_skipBlanks_8 (by decide) (fun c1 => ?_) (fun c1 => ?_)
      · have h := sy_t c1 h
        exact sy_vret fx X hr hlk h dX6_skipBlanks_38
      · have h := sy_f c1 h
        refine lv_aload_n hx hb dX6_skipBlanks_11 rfl (lv_at hl 0 rfl) ?_
        refine sy_q6 fx X (sy_OReader_o ht) 0 (by decide) wm_106 (fun _ h9 => h9) rfl (sy_OReader_r0 ht) dX6_skipBlanks_12 ?_
        refine lv_aload_n hx hb dX6_skipBlanks_15 rfl (lv_at hl 0 rfl) ?_
        refine sy_g6 fx X (sy_OReader_o ht) 5 (by decide) wm_227 (fun _ h9 => h9) rfl dX6_skipBlanks_16 ?_
        obtain ⟨x2, hx2, h⟩ := sy_b_e h
        refine sy_top hx2 ?_
        obtain ⟨g3, h⟩ := sy_g_e h
        refine sy_iald fx X (sy_OReader_a0 ht) g3 dX6_skipBlanks_19 ?_
        refine lv_bipush (v := 32) hx hb dX6_skipBlanks_20 (by decide) ?_
        refine lv_icmp_ne (tgt := 38) hx hb dX6_skipBlanks_22 (by decide) (fun c4 => ?_) (fun c4 => ?_)
        · have h := sy_f c4 h
          exact sy_vret fx X hr hlk h dX6_skipBlanks_38
        · have h := sy_t c4 h
          refine lv_aload_n hx hb dX6_skipBlanks_25 rfl (lv_at hl 0 rfl) ?_
          refine lv_dup hx hb dX6_skipBlanks_26 rfl ?_
          refine sy_g6 fx X (sy_OReader_o ht) 5 (by decide) wm_227 (fun _ h9 => h9) rfl dX6_skipBlanks_27 ?_
          refine lv_iconst (v := 1) hx hb dX6_skipBlanks_30 (by decide) ?_
          refine lv_iadd hx hb dX6_skipBlanks_31 ?_
          obtain ⟨S5, hS5, h⟩ := sy_b_e h
          refine sy_p6 fx X (sy_OReader_o ht) 5 (by decide) wm_227 (fun _ h9 => h9) rfl (ty := .int) (by decide +kernel) rfl rfl hS5 sy_s6_5 dX6_skipBlanks_32 (fun H locs X => ?_)
          refine lv_goto (tgt := 0) hx hb dX6_skipBlanks_35 (by decide) ?_
          exact ih0 S5 _ _ _ X (lv_sub hl [0] rfl) h
  unfold m_Reader_skipBlanks at h
  exact L_0 sy_F S _ _ _ X (lv_sub hl [0] rfl) h
def m_Reader_hasMore (S : sy_St) : sy_R := sy_c (m_Reader_skipBlanks S) fun r2 S1 => if (S1 35 3) = 0 then (if (S1 35 2) ≤ (S1 35 5) then (some (0, S1)) else (some (1, S1))) else (some (0, S1))
theorem cv_Reader_hasMore : sy_cV RX6 yX6_hasMore cX6_hasMore 1 (some .boolean) 0 := ⟨wm_232, wm_233, wm_21, wm_234, by decide +kernel⟩
set_option maxRecDepth 100000 in
set_option maxHeartbeats 40000000 in
theorem c_Reader_hasMore (l : Launch) {E : sy_ET} (ht : sy_OReader E) {S S' : sy_St} {r : Int32} (h : m_Reader_hasMore S = some (r, S')) : sy_MI l yX6_hasMore cX6_hasMore 1 (some .boolean) 1 20 [.ref (sy_ad E 35)] E S r S' := by
  refine sy_MI_of RX6 pn_6 rfl (Nat.le_of_ble_eq_true rfl) (fun p e s m args below meth c A ls fx hr hlk hA X hl => ?_)
  have hx := fx.1
  have hb := fx.2.1
  have hown := fx.2.2.2.1
  have hts := fx.2.2.2.2
  have hl : lv_has ls 1 [(0, .ref (sy_ad E 35))] := hl
  unfold m_Reader_hasMore at h
  refine lv_aload_n hx hb dX6_hasMore_0 rfl (lv_at hl 0 rfl) ?_
  obtain ⟨r2, S1, hc3, h⟩ := sy_c_e h
  refine sy_vv (rest := []) fx hA X hl.1 (sy_OReader_o ht) (sy_en6 (sy_OReader_o ht).2) rfl (c_Reader_skipBlanks l ht hc3) cv_Reader_skipBlanks wm_235 ⟨Nat.le_of_ble_eq_true rfl, Nat.le_of_ble_eq_true rfl, Nat.le_refl _, Nat.le_refl _⟩ rfl rfl (Nat.le_of_ble_eq_true rfl) dX6_hasMore_1 (fun H locs X => ?_)
  refine lv_aload_n hx hb dX6_hasMore_4 rfl (lv_at hl 0 rfl) ?_
  refine sy_g6 fx X (sy_OReader_o ht) 3 (by decide) wm_226 (fun _ h9 => h9) rfl dX6_hasMore_5 ?_
  refine lv_if_ne (tgt := 26) hx hb dX6_hasMore_8 (by decide) (fun c4 => ?_) (fun c4 => ?_)
  · have h := sy_f c4 h
    refine lv_iconst (v := 0) hx hb dX6_hasMore_26 (by decide) ?_
    exact sy_zret fx X hr hlk (Or.inl rfl) h dX6_hasMore_27
  · have h := sy_t c4 h
    refine lv_aload_n hx hb dX6_hasMore_11 rfl (lv_at hl 0 rfl) ?_
    refine sy_g6 fx X (sy_OReader_o ht) 5 (by decide) wm_227 (fun _ h9 => h9) rfl dX6_hasMore_12 ?_
    refine lv_aload_n hx hb dX6_hasMore_15 rfl (lv_at hl 0 rfl) ?_
    refine sy_g6 fx X (sy_OReader_o ht) 2 (by decide) wm_203 (fun _ h9 => h9) rfl dX6_hasMore_16 ?_
    refine lv_icmp_ge (tgt := 26) hx hb dX6_hasMore_19 (by decide) (fun c5 => ?_) (fun c5 => ?_)
    · have h := sy_t c5 h
      refine lv_iconst (v := 0) hx hb dX6_hasMore_26 (by decide) ?_
      exact sy_zret fx X hr hlk (Or.inl rfl) h dX6_hasMore_27
    · have h := sy_f c5 h
      refine lv_iconst (v := 1) hx hb dX6_hasMore_22 (by decide) ?_
      refine lv_goto (tgt := 27) hx hb dX6_hasMore_23 (by decide) ?_
      exact sy_zret fx X hr hlk (Or.inr rfl) h dX6_hasMore_27
def m_Reader_isFigure (p0 : Int32) (S : sy_St) : sy_R := if p0 < 48 then (some (0, S)) else (if 57 < p0 then (some (0, S)) else (some (1, S)))
theorem cv_Reader_isFigure : sy_cS RX6 yX6_isFigure cX6_isFigure 1 (some .boolean) 1 := ⟨wm_258, wm_21, wm_259, by decide +kernel⟩
set_option maxRecDepth 100000 in
set_option maxHeartbeats 40000000 in
theorem c_Reader_isFigure (l : Launch) {E : sy_ET} {p0 : Int32} {S S' : sy_St} {r : Int32} (h : m_Reader_isFigure p0 S = some (r, S')) : sy_MI l yX6_isFigure cX6_isFigure 1 (some .boolean) 0 0 [.int p0] E S r S' := by
  refine sy_MI_of RX6 pn_6 rfl (Nat.le_of_ble_eq_true rfl) (fun p e s m args below meth c A ls fx hr hlk hA X hl => ?_)
  have hx := fx.1
  have hb := fx.2.1
  have hown := fx.2.2.2.1
  have hts := fx.2.2.2.2
  have hl : lv_has ls 1 [(0, .int p0)] := hl
  unfold m_Reader_isFigure at h
  refine lv_iload_n hx hb dX6_isFigure_0 rfl (lv_at hl 0 rfl) ?_
  refine lv_bipush (v := 48) hx hb dX6_isFigure_1 (by decide) ?_
  refine lv_icmp_lt (tgt := 16) hx hb dX6_isFigure_3 (by decide) (fun c1 => ?_) (fun c1 => ?_)
  · have h := sy_t c1 h
    refine lv_iconst (v := 0) hx hb dX6_isFigure_16 (by decide) ?_
    exact sy_zret fx X hr hlk (Or.inl rfl) h dX6_isFigure_17
  · have h := sy_f c1 h
    refine lv_iload_n hx hb dX6_isFigure_6 rfl (lv_at hl 0 rfl) ?_
    refine lv_bipush (v := 57) hx hb dX6_isFigure_7 (by decide) ?_
    refine lv_icmp_gt (tgt := 16) hx hb dX6_isFigure_9 (by decide) (fun c2 => ?_) (fun c2 => ?_)
    · have h := sy_t c2 h
      refine lv_iconst (v := 0) hx hb dX6_isFigure_16 (by decide) ?_
      exact sy_zret fx X hr hlk (Or.inl rfl) h dX6_isFigure_17
    · have h := sy_f c2 h
      refine lv_iconst (v := 1) hx hb dX6_isFigure_12 (by decide) ?_
      refine lv_goto (tgt := 17) hx hb dX6_isFigure_13 (by decide) ?_
      exact sy_zret fx X hr hlk (Or.inr rfl) h dX6_isFigure_17
def m_Reader_isNext (p0 : Int32) (S : sy_St) : sy_R := sy_c (m_Reader_skipBlanks S) fun r2 S1 => if (S1 35 3) = 0 then (if (S1 35 2) ≤ (S1 35 5) then (some (0, S1)) else (sy_b (S1 35 5 : Int32) fun x6 => sy_g (sy_in x6 250) <| if (S1 36 x6.toNatClampNeg) = p0 then (some (1, S1)) else (some (0, S1)))) else (some (0, S1))
theorem cv_Reader_isNext : sy_cV RX6 yX6_isNext cX6_isNext 2 (some .boolean) 1 := ⟨wm_265, wm_266, wm_21, wm_267, by decide +kernel⟩
set_option maxRecDepth 100000 in
set_option maxHeartbeats 40000000 in
theorem c_Reader_isNext (l : Launch) {E : sy_ET} (ht : sy_OReader E) {p0 : Int32} {S S' : sy_St} {r : Int32} (h : m_Reader_isNext p0 S = some (r, S')) : sy_MI l yX6_isNext cX6_isNext 2 (some .boolean) 1 20 [.ref (sy_ad E 35), .int p0] E S r S' := by
  refine sy_MI_of RX6 pn_6 rfl (Nat.le_of_ble_eq_true rfl) (fun p e s m args below meth c A ls fx hr hlk hA X hl => ?_)
  have hx := fx.1
  have hb := fx.2.1
  have hown := fx.2.2.2.1
  have hts := fx.2.2.2.2
  have hl : lv_has ls 2 [(0, .ref (sy_ad E 35)), (1, .int p0)] := hl
  unfold m_Reader_isNext at h
  refine lv_aload_n hx hb dX6_isNext_0 rfl (lv_at hl 0 rfl) ?_
  obtain ⟨r2, S1, hc3, h⟩ := sy_c_e h
  refine sy_vv (rest := []) fx hA X hl.1 (sy_OReader_o ht) (sy_en6 (sy_OReader_o ht).2) rfl (c_Reader_skipBlanks l ht hc3) cv_Reader_skipBlanks wm_235 ⟨Nat.le_of_ble_eq_true rfl, Nat.le_of_ble_eq_true rfl, Nat.le_refl _, Nat.le_refl _⟩ rfl rfl (Nat.le_of_ble_eq_true rfl) dX6_isNext_1 (fun H locs X => ?_)
  refine lv_aload_n hx hb dX6_isNext_4 rfl (lv_at hl 0 rfl) ?_
  refine sy_g6 fx X (sy_OReader_o ht) 3 (by decide) wm_226 (fun _ h9 => h9) rfl dX6_isNext_5 ?_
  refine lv_if_ne (tgt := 39) hx hb dX6_isNext_8 (by decide) (fun c4 => ?_) (fun c4 => ?_)
  · have h := sy_f c4 h
    refine lv_iconst (v := 0) hx hb dX6_isNext_39 (by decide) ?_
    exact sy_zret fx X hr hlk (Or.inl rfl) h dX6_isNext_40
  · have h := sy_t c4 h
    refine lv_aload_n hx hb dX6_isNext_11 rfl (lv_at hl 0 rfl) ?_
    refine sy_g6 fx X (sy_OReader_o ht) 5 (by decide) wm_227 (fun _ h9 => h9) rfl dX6_isNext_12 ?_
    refine lv_aload_n hx hb dX6_isNext_15 rfl (lv_at hl 0 rfl) ?_
    refine sy_g6 fx X (sy_OReader_o ht) 2 (by decide) wm_203 (fun _ h9 => h9) rfl dX6_isNext_16 ?_
    refine lv_icmp_ge (tgt := 39) hx hb dX6_isNext_19 (by decide) (fun c5 => ?_) (fun c5 => ?_)
    · have h := sy_t c5 h
      refine lv_iconst (v := 0) hx hb dX6_isNext_39 (by decide) ?_
      exact sy_zret fx X hr hlk (Or.inl rfl) h dX6_isNext_40
    · have h := sy_f c5 h
      refine lv_aload_n hx hb dX6_isNext_22 rfl (lv_at hl 0 rfl) ?_
      refine sy_q6 fx X (sy_OReader_o ht) 0 (by decide) wm_106 (fun _ h9 => h9) rfl (sy_OReader_r0 ht) dX6_isNext_23 ?_
      refine lv_aload_n hx hb dX6_isNext_26 rfl (lv_at hl 0 rfl) ?_
      refine sy_g6 fx X (sy_OReader_o ht) 5 (by decide) wm_227 (fun _ h9 => h9) rfl dX6_isNext_27 ?_
      obtain ⟨x6, hx6, h⟩ := sy_b_e h
      refine sy_top hx6 ?_
      obtain ⟨g7, h⟩ := sy_g_e h
      refine sy_iald fx X (sy_OReader_a0 ht) g7 dX6_isNext_30 ?_
      refine lv_iload_n hx hb dX6_isNext_31 rfl (lv_at hl 1 rfl) ?_
      refine lv_icmp_ne (tgt := 39) hx hb dX6_isNext_32 (by decide) (fun c8 => ?_) (fun c8 => ?_)
      · have h := sy_f c8 h
        refine lv_iconst (v := 0) hx hb dX6_isNext_39 (by decide) ?_
        exact sy_zret fx X hr hlk (Or.inl rfl) h dX6_isNext_40
      · have h := sy_t c8 h
        refine lv_iconst (v := 1) hx hb dX6_isNext_35 (by decide) ?_
        refine lv_goto (tgt := 40) hx hb dX6_isNext_36 (by decide) ?_
        exact sy_zret fx X hr hlk (Or.inr rfl) h dX6_isNext_40
def m_Reader_readNumber_J93 (y1 : Int32) (y2 : Int32) (y3 : Int32) (S : sy_St) : sy_R := sy_b ((S 35 5) - (S 35 6) : Int32) fun x19 => if x19 = 0 then (sy_c (m_Reader_fail 1 (S 35 5) S) fun r34 S33 => some (y3, S33)) else (if 3 < x19 then (sy_c (m_Reader_fail 2 (S 35 6) S) fun r23 S22 => some (y3, S22)) else (if y3 < y1 then (sy_c (m_Reader_fail 2 (S 35 6) S) fun r27 S26 => some (y3, S26)) else (if y3 ≤ y2 then (some (y3, S)) else (sy_c (m_Reader_fail 2 (S 35 6) S) fun r31 S30 => some (y3, S30)))))
def m_Reader_readNumber_B23 (kk23 : Int32 → Int32 → Int32 → sy_St → sy_R) (y1 : Int32) (y2 : Int32) (y3 : Int32) (S : sy_St) : sy_R := if (S 35 2) ≤ (S 35 5) then (m_Reader_readNumber_J93 y1 y2 y3 S) else (sy_b (S 35 5 : Int32) fun x7 => sy_g (sy_in x7 250) <| sy_c (m_Reader_isFigure (S 36 x7.toNatClampNeg) S) fun r10 S9 => if r10 = 0 then (m_Reader_readNumber_J93 y1 y2 y3 S9) else (if 3 ≤ ((S9 35 5) - (S9 35 6)) then (sy_b (sy_up S9 35 5 ((S9 35 5) + 1)) fun S14 => kk23 y1 y2 y3 S14) else (sy_b (S9 35 5 : Int32) fun x15 => sy_g (sy_in x15 250) <| sy_b (((y3 * 10) + (S9 36 x15.toNatClampNeg)) - 48 : Int32) fun x17 => sy_b (sy_up S9 35 5 ((S9 35 5) + 1)) fun S18 => kk23 y1 y2 x17 S18)))
def m_Reader_readNumber (p0 : Int32) (p1 : Int32) (S : sy_St) : sy_R := sy_c (m_Reader_skipBlanks S) fun r2 S1 => if (S1 35 3) = 0 then (sy_b (sy_up S1 35 6 (S1 35 5)) fun S5 => sy_fix (fun _ _ _ _ => none) (m_Reader_readNumber_B23) sy_F p0 p1 0 S5) else (some (p0, S1))
theorem cv_Reader_readNumber : sy_cV RX6 yX6_readNumber cX6_readNumber 5 (some .int) 2 := ⟨wm_253, wm_254, wm_21, wm_255, by decide +kernel⟩
set_option maxRecDepth 100000 in
set_option maxHeartbeats 40000000 in
theorem c_Reader_readNumber (l : Launch) {E : sy_ET} (ht : sy_OReader E) {p0 : Int32} {p1 : Int32} {S S' : sy_St} {r : Int32} (h : m_Reader_readNumber p0 p1 S = some (r, S')) : sy_MI l yX6_readNumber cX6_readNumber 5 (some .int) 1 22 [.ref (sy_ad E 35), .int p0, .int p1] E S r S' := by
  refine sy_MI_of RX6 pn_6 rfl (Nat.le_of_ble_eq_true rfl) (fun p e s m args below meth c A ls fx hr hlk hA X hl => ?_)
  have hx := fx.1
  have hb := fx.2.1
  have hown := fx.2.2.2.1
  have hts := fx.2.2.2.2
  have hl : lv_has ls 5 [(0, .ref (sy_ad E 35)), (1, .int p0), (2, .int p1)] := hl
  have J_93 : ∀ (y1 y2 y3 : Int32) (S : sy_St) (H : Heap) (locs : List Loc) (ls : Array Slot), sy_Wd E A s S H locs → lv_has ls 5 [(0, .ref (sy_ad E 35)), (1, .int y1), (2, .int y2), (3, .int y3)] → m_Reader_readNumber_J93 y1 y2 y3 S = some (r, S') → W p l e (sy_rm 1 22) s m args below meth c H locs 0 0 (MQ below (sy_Qi E A r S') args s 0 0 A) (F0 m 93 ls []) := by
    intro y1 y2 y3 S H locs ls X hl h
    unfold m_Reader_readNumber_J93 at h
    refine lv_aload_n hx hb dX6_readNumber_93 rfl (lv_at hl 0 rfl) ?_
    refine sy_g6 fx X (sy_OReader_o ht) 5 (by decide) wm_227 (fun _ h9 => h9) rfl dX6_readNumber_94 ?_
    refine lv_aload_n hx hb dX6_readNumber_97 rfl (lv_at hl 0 rfl) ?_
    refine sy_g6 fx X (sy_OReader_o ht) 6 (by decide) wm_256 (fun _ h9 => h9) rfl dX6_readNumber_98 ?_
    refine lv_isub hx hb dX6_readNumber_101 ?_
    obtain ⟨x19, hx19, h⟩ := sy_b_e h
    refine sy_top hx19 ?_
    refine lv_istore (lv' := [(4, .int x19), (0, .ref (sy_ad E 35)), (1, .int y1), (2, .int y2), (3, .int y3)]) hx hb dX6_readNumber_102 hl (by decide) rfl (fun ls hl => ?_)
    refine lv_iload hx hb dX6_readNumber_104 (lv_at hl 0 rfl) ?_
    refine lv_if_ne (tgt := 121) hx hb dX6_readNumber_106 (by decide) (fun c20 => ?_) (fun c20 => ?_)
    · have h := sy_f c20 h
      refine lv_iload hx hb dX6_readNumber_121 (lv_at hl 0 rfl) ?_
      refine lv_iconst (v := 3) hx hb dX6_readNumber_123 (by decide) ?_
      refine lv_icmp_gt (tgt := 137) hx hb dX6_readNumber_124 (by decide) (fun c21 => ?_) (fun c21 => ?_)
      · have h := sy_t c21 h
        refine lv_aload_n hx hb dX6_readNumber_137 rfl (lv_at hl 1 rfl) ?_
        refine lv_iconst (v := 2) hx hb dX6_readNumber_138 (by decide) ?_
        refine lv_aload_n hx hb dX6_readNumber_139 rfl (lv_at hl 1 rfl) ?_
        refine sy_g6 fx X (sy_OReader_o ht) 6 (by decide) wm_256 (fun _ h9 => h9) rfl dX6_readNumber_140 ?_
        obtain ⟨r23, S22, hc24, h⟩ := sy_c_e h
        refine sy_vv (rest := []) fx hA X hl.1 (sy_OReader_o ht) (sy_en6 (sy_OReader_o ht).2) rfl (c_Reader_fail l ht hc24) cv_Reader_fail wm_248 ⟨Nat.le_of_ble_eq_true rfl, Nat.le_of_ble_eq_true rfl, Nat.le_refl _, Nat.le_refl _⟩ rfl rfl (Nat.le_of_ble_eq_true rfl) dX6_readNumber_143 (fun H locs X => ?_)
        refine lv_iload_n hx hb dX6_readNumber_146 rfl (lv_at hl 4 rfl) ?_
        exact sy_iret fx X hr hlk h dX6_readNumber_147
      · have h := sy_f c21 h
        refine lv_iload_n hx hb dX6_readNumber_127 rfl (lv_at hl 4 rfl) ?_
        refine lv_iload_n hx hb dX6_readNumber_128 rfl (lv_at hl 2 rfl) ?_
        refine lv_icmp_lt (tgt := 137) hx hb dX6_readNumber_129 (by decide) (fun c25 => ?_) (fun c25 => ?_)
        · have h := sy_t c25 h
          refine lv_aload_n hx hb dX6_readNumber_137 rfl (lv_at hl 1 rfl) ?_
          refine lv_iconst (v := 2) hx hb dX6_readNumber_138 (by decide) ?_
          refine lv_aload_n hx hb dX6_readNumber_139 rfl (lv_at hl 1 rfl) ?_
          refine sy_g6 fx X (sy_OReader_o ht) 6 (by decide) wm_256 (fun _ h9 => h9) rfl dX6_readNumber_140 ?_
          obtain ⟨r27, S26, hc28, h⟩ := sy_c_e h
          refine sy_vv (rest := []) fx hA X hl.1 (sy_OReader_o ht) (sy_en6 (sy_OReader_o ht).2) rfl (c_Reader_fail l ht hc28) cv_Reader_fail wm_248 ⟨Nat.le_of_ble_eq_true rfl, Nat.le_of_ble_eq_true rfl, Nat.le_refl _, Nat.le_refl _⟩ rfl rfl (Nat.le_of_ble_eq_true rfl) dX6_readNumber_143 (fun H locs X => ?_)
          refine lv_iload_n hx hb dX6_readNumber_146 rfl (lv_at hl 4 rfl) ?_
          exact sy_iret fx X hr hlk h dX6_readNumber_147
        · have h := sy_f c25 h
          refine lv_iload_n hx hb dX6_readNumber_132 rfl (lv_at hl 4 rfl) ?_
          refine lv_iload_n hx hb dX6_readNumber_133 rfl (lv_at hl 3 rfl) ?_
          refine lv_icmp_le (tgt := 146) hx hb dX6_readNumber_134 (by decide) (fun c29 => ?_) (fun c29 => ?_)
          · have h := sy_t c29 h
            refine lv_iload_n hx hb dX6_readNumber_146 rfl (lv_at hl 4 rfl) ?_
            exact sy_iret fx X hr hlk h dX6_readNumber_147
          · have h := sy_f c29 h
            refine lv_aload_n hx hb dX6_readNumber_137 rfl (lv_at hl 1 rfl) ?_
            refine lv_iconst (v := 2) hx hb dX6_readNumber_138 (by decide) ?_
            refine lv_aload_n hx hb dX6_readNumber_139 rfl (lv_at hl 1 rfl) ?_
            refine sy_g6 fx X (sy_OReader_o ht) 6 (by decide) wm_256 (fun _ h9 => h9) rfl dX6_readNumber_140 ?_
            obtain ⟨r31, S30, hc32, h⟩ := sy_c_e h
            refine sy_vv (rest := []) fx hA X hl.1 (sy_OReader_o ht) (sy_en6 (sy_OReader_o ht).2) rfl (c_Reader_fail l ht hc32) cv_Reader_fail wm_248 ⟨Nat.le_of_ble_eq_true rfl, Nat.le_of_ble_eq_true rfl, Nat.le_refl _, Nat.le_refl _⟩ rfl rfl (Nat.le_of_ble_eq_true rfl) dX6_readNumber_143 (fun H locs X => ?_)
            refine lv_iload_n hx hb dX6_readNumber_146 rfl (lv_at hl 4 rfl) ?_
            exact sy_iret fx X hr hlk h dX6_readNumber_147
    · have h := sy_t c20 h
      refine lv_aload_n hx hb dX6_readNumber_109 rfl (lv_at hl 1 rfl) ?_
      refine lv_iconst (v := 1) hx hb dX6_readNumber_110 (by decide) ?_
      refine lv_aload_n hx hb dX6_readNumber_111 rfl (lv_at hl 1 rfl) ?_
      refine sy_g6 fx X (sy_OReader_o ht) 5 (by decide) wm_227 (fun _ h9 => h9) rfl dX6_readNumber_112 ?_
      obtain ⟨r34, S33, hc35, h⟩ := sy_c_e h
      refine sy_vv (rest := []) fx hA X hl.1 (sy_OReader_o ht) (sy_en6 (sy_OReader_o ht).2) rfl (c_Reader_fail l ht hc35) cv_Reader_fail wm_248 ⟨Nat.le_of_ble_eq_true rfl, Nat.le_of_ble_eq_true rfl, Nat.le_refl _, Nat.le_refl _⟩ rfl rfl (Nat.le_of_ble_eq_true rfl) dX6_readNumber_115 (fun H locs X => ?_)
      refine lv_goto (tgt := 146) hx hb dX6_readNumber_118 (by decide) ?_
      refine lv_iload_n hx hb dX6_readNumber_146 rfl (lv_at hl 4 rfl) ?_
      exact sy_iret fx X hr hlk h dX6_readNumber_147
  have L_23 : ∀ (n23 : Nat) (y1 y2 y3 : Int32) (S : sy_St) (H : Heap) (locs : List Loc) (ls : Array Slot), sy_Wd E A s S H locs → lv_has ls 5 [(0, .ref (sy_ad E 35)), (1, .int y1), (2, .int y2), (3, .int y3)] → sy_fix (fun _ _ _ _ => none) (m_Reader_readNumber_B23) n23 y1 y2 y3 S = some (r, S') → W p l e (sy_rm 1 22) s m args below meth c H locs 0 0 (MQ below (sy_Qi E A r S') args s 0 0 A) (F0 m 23 ls []) := by
    intro n23
    induction n23 with
    | zero => intro y1 y2 y3 S H locs ls X hl h; have h9 : (none : sy_R) = some (r, S') := h; cases h9
    | succ n23 ih23 =>
      intro y1 y2 y3 S H locs ls X hl h
      have h : m_Reader_readNumber_B23 (sy_fix (fun _ _ _ _ => none) (m_Reader_readNumber_B23) n23) y1 y2 y3 S = some (r, S') := h
      unfold m_Reader_readNumber_B23 at h
      refine lv_aload_n hx hb dX6_readNumber_23 rfl (lv_at hl 0 rfl) ?_
      refine sy_g6 fx X (sy_OReader_o ht) 5 (by decide) wm_227 (fun _ h9 => h9) rfl dX6_readNumber_24 ?_
      refine lv_aload_n hx hb dX6_readNumber_27 rfl (lv_at hl 0 rfl) ?_
      refine sy_g6 fx X (sy_OReader_o ht) 2 (by decide) wm_203 (fun _ h9 => h9) rfl dX6_readNumber_28 ?_
      refine lv_icmp_ge (tgt := 93) hx hb dX6_readNumber_31 (by decide) (fun c6 => ?_) (fun c6 => ?_)
      · have h := sy_t c6 h
        exact J_93 y1 y2 y3 S _ _ _ X (lv_sub hl [0, 1, 2, 3] rfl) h
      · have h := sy_f c6 h
        refine lv_aload_n hx hb dX6_readNumber_34 rfl (lv_at hl 0 rfl) ?_
        refine sy_q6 fx X (sy_OReader_o ht) 0 (by decide) wm_106 (fun _ h9 => h9) rfl (sy_OReader_r0 ht) dX6_readNumber_35 ?_
        refine lv_aload_n hx hb dX6_readNumber_38 rfl (lv_at hl 0 rfl) ?_
        refine sy_g6 fx X (sy_OReader_o ht) 5 (by decide) wm_227 (fun _ h9 => h9) rfl dX6_readNumber_39 ?_
        obtain ⟨x7, hx7, h⟩ := sy_b_e h
        refine sy_top hx7 ?_
        obtain ⟨g8, h⟩ := sy_g_e h
        refine sy_iald fx X (sy_OReader_a0 ht) g8 dX6_readNumber_42 ?_
        obtain ⟨r10, S9, hc11, h⟩ := sy_c_e h
        refine sy_si (rest := []) fx hA X hl.1 (c_Reader_isFigure l hc11) cv_Reader_isFigure wm_257 ⟨Nat.le_of_ble_eq_true rfl, Nat.le_of_ble_eq_true rfl, Nat.le_refl _, Nat.le_refl _⟩ rfl rfl (Nat.le_of_ble_eq_true rfl) dX6_readNumber_43 (fun H locs X => ?_)
        refine lv_if_eq (tgt := 93) hx hb dX6_readNumber_46 (by decide) (fun c12 => ?_) (fun c12 => ?_)
        · have h := sy_t c12 h
          exact J_93 y1 y2 y3 S9 _ _ _ X (lv_sub hl [0, 1, 2, 3] rfl) h
        · have h := sy_f c12 h
          refine lv_aload_n hx hb dX6_readNumber_49 rfl (lv_at hl 0 rfl) ?_
          refine sy_g6 fx X (sy_OReader_o ht) 5 (by decide) wm_227 (fun _ h9 => h9) rfl dX6_readNumber_50 ?_
          refine lv_aload_n hx hb dX6_readNumber_53 rfl (lv_at hl 0 rfl) ?_
          refine sy_g6 fx X (sy_OReader_o ht) 6 (by decide) wm_256 (fun _ h9 => h9) rfl dX6_readNumber_54 ?_
          refine lv_isub hx hb dX6_readNumber_57 ?_
          refine lv_iconst (v := 3) hx hb dX6_readNumber_58 (by decide) ?_
          refine lv_icmp_ge (tgt := 80) hx hb dX6_readNumber_59 (by decide) (fun c13 => ?_) (fun c13 => ?_)
          · have h := sy_t c13 h
            refine lv_aload_n hx hb dX6_readNumber_80 rfl (lv_at hl 0 rfl) ?_
            refine lv_dup hx hb dX6_readNumber_81 rfl ?_
            refine sy_g6 fx X (sy_OReader_o ht) 5 (by decide) wm_227 (fun _ h9 => h9) rfl dX6_readNumber_82 ?_
            refine lv_iconst (v := 1) hx hb dX6_readNumber_85 (by decide) ?_
            refine lv_iadd hx hb dX6_readNumber_86 ?_
            obtain ⟨S14, hS14, h⟩ := sy_b_e h
            refine sy_p6 fx X (sy_OReader_o ht) 5 (by decide) wm_227 (fun _ h9 => h9) rfl (ty := .int) (by decide +kernel) rfl rfl hS14 sy_s6_5 dX6_readNumber_87 (fun H locs X => ?_)
            refine lv_goto (tgt := 23) hx hb dX6_readNumber_90 (by decide) ?_
            exact ih23 y1 y2 y3 S14 _ _ _ X (lv_sub hl [0, 1, 2, 3] rfl) h
          · have h := sy_f c13 h
            refine lv_iload_n hx hb dX6_readNumber_62 rfl (lv_at hl 3 rfl) ?_
            refine lv_bipush (v := 10) hx hb dX6_readNumber_63 (by decide) ?_
            refine lv_imul hx hb dX6_readNumber_65 ?_
            refine lv_aload_n hx hb dX6_readNumber_66 rfl (lv_at hl 0 rfl) ?_
            refine sy_q6 fx X (sy_OReader_o ht) 0 (by decide) wm_106 (fun _ h9 => h9) rfl (sy_OReader_r0 ht) dX6_readNumber_67 ?_
            refine lv_aload_n hx hb dX6_readNumber_70 rfl (lv_at hl 0 rfl) ?_
            refine sy_g6 fx X (sy_OReader_o ht) 5 (by decide) wm_227 (fun _ h9 => h9) rfl dX6_readNumber_71 ?_
            obtain ⟨x15, hx15, h⟩ := sy_b_e h
            refine sy_top hx15 ?_
            obtain ⟨g16, h⟩ := sy_g_e h
            refine sy_iald fx X (sy_OReader_a0 ht) g16 dX6_readNumber_74 ?_
            refine lv_iadd hx hb dX6_readNumber_75 ?_
            refine lv_bipush (v := 48) hx hb dX6_readNumber_76 (by decide) ?_
            refine lv_isub hx hb dX6_readNumber_78 ?_
            obtain ⟨x17, hx17, h⟩ := sy_b_e h
            refine sy_top hx17 ?_
            refine lv_istore_n (lv' := [(3, .int x17), (0, .ref (sy_ad E 35)), (1, .int y1), (2, .int y2)]) hx hb dX6_readNumber_79 rfl hl (by decide) rfl (fun ls hl => ?_)
            refine lv_aload_n hx hb dX6_readNumber_80 rfl (lv_at hl 1 rfl) ?_
            refine lv_dup hx hb dX6_readNumber_81 rfl ?_
            refine sy_g6 fx X (sy_OReader_o ht) 5 (by decide) wm_227 (fun _ h9 => h9) rfl dX6_readNumber_82 ?_
            refine lv_iconst (v := 1) hx hb dX6_readNumber_85 (by decide) ?_
            refine lv_iadd hx hb dX6_readNumber_86 ?_
            obtain ⟨S18, hS18, h⟩ := sy_b_e h
            refine sy_p6 fx X (sy_OReader_o ht) 5 (by decide) wm_227 (fun _ h9 => h9) rfl (ty := .int) (by decide +kernel) rfl rfl hS18 sy_s6_5 dX6_readNumber_87 (fun H locs X => ?_)
            refine lv_goto (tgt := 23) hx hb dX6_readNumber_90 (by decide) ?_
            exact ih23 y1 y2 x17 S18 _ _ _ X (lv_sub hl [1, 2, 3, 0] rfl) h
  unfold m_Reader_readNumber at h
  refine lv_aload_n hx hb dX6_readNumber_0 rfl (lv_at hl 0 rfl) ?_
  obtain ⟨r2, S1, hc3, h⟩ := sy_c_e h
  refine sy_vv (rest := []) fx hA X hl.1 (sy_OReader_o ht) (sy_en6 (sy_OReader_o ht).2) rfl (c_Reader_skipBlanks l ht hc3) cv_Reader_skipBlanks wm_235 ⟨Nat.le_of_ble_eq_true rfl, Nat.le_of_ble_eq_true rfl, Nat.le_refl _, Nat.le_refl _⟩ rfl rfl (Nat.le_of_ble_eq_true rfl) dX6_readNumber_1 (fun H locs X => ?_)
  refine lv_aload_n hx hb dX6_readNumber_4 rfl (lv_at hl 0 rfl) ?_
  refine sy_g6 fx X (sy_OReader_o ht) 3 (by decide) wm_226 (fun _ h9 => h9) rfl dX6_readNumber_5 ?_
  refine lv_if_eq (tgt := 13) hx hb dX6_readNumber_8 (by decide) (fun c4 => ?_) (fun c4 => ?_)
  · have h := sy_t c4 h
    refine lv_aload_n hx hb dX6_readNumber_13 rfl (lv_at hl 0 rfl) ?_
    refine lv_aload_n hx hb dX6_readNumber_14 rfl (lv_at hl 0 rfl) ?_
    refine sy_g6 fx X (sy_OReader_o ht) 5 (by decide) wm_227 (fun _ h9 => h9) rfl dX6_readNumber_15 ?_
    obtain ⟨S5, hS5, h⟩ := sy_b_e h
    refine sy_p6 fx X (sy_OReader_o ht) 6 (by decide) wm_256 (fun _ h9 => h9) rfl (ty := .int) (by decide +kernel) rfl rfl hS5 sy_s6_6 dX6_readNumber_18 (fun H locs X => ?_)
    refine lv_iconst (v := 0) hx hb dX6_readNumber_21 (by decide) ?_
    refine lv_istore_n (lv' := [(3, .int 0), (0, .ref (sy_ad E 35)), (1, .int p0), (2, .int p1)]) hx hb dX6_readNumber_22 rfl hl (by decide) rfl (fun ls hl => ?_)
    exact L_23 sy_F p0 p1 0 S5 _ _ _ X (lv_sub hl [1, 2, 3, 0] rfl) h
  · have h := sy_f c4 h
    refine lv_iload_n hx hb dX6_readNumber_11 rfl (lv_at hl 1 rfl) ?_
    exact sy_iret fx X hr hlk h dX6_readNumber_12
def m_Reader_readEnd (S : sy_St) : sy_R := sy_c (m_Reader_isNext 59 S) fun r2 S1 => if r2 = 0 then (sy_c (m_Reader_fail 1 (S1 35 5) S1) fun r6 S5 => some (0, S5)) else (sy_b (sy_up S1 35 5 ((S1 35 5) + 1)) fun S8 => some (0, S8))
theorem cv_Reader_readEnd : sy_cV RX6 yX6_readEnd cX6_readEnd 1 none 0 := ⟨wm_269, wm_270, wm_21, wm_271, by decide +kernel⟩
set_option maxRecDepth 100000 in
set_option maxHeartbeats 40000000 in
theorem c_Reader_readEnd (l : Launch) {E : sy_ET} (ht : sy_OReader E) {S S' : sy_St} {r : Int32} (h : m_Reader_readEnd S = some (r, S')) : sy_MV l yX6_readEnd cX6_readEnd 1 2 41 [.ref (sy_ad E 35)] E S S' := by
  refine sy_MV_of RX6 pn_6 rfl (Nat.le_of_ble_eq_true rfl) (fun p e s m args below meth c A ls fx hr hlk hA X hl => ?_)
  have hx := fx.1
  have hb := fx.2.1
  have hown := fx.2.2.2.1
  have hts := fx.2.2.2.2
  have hl : lv_has ls 1 [(0, .ref (sy_ad E 35))] := hl
  unfold m_Reader_readEnd at h
  refine lv_aload_n hx hb dX6_readEnd_0 rfl (lv_at hl 0 rfl) ?_
  refine lv_bipush (v := 59) hx hb dX6_readEnd_1 (by decide) ?_
  obtain ⟨r2, S1, hc3, h⟩ := sy_c_e h
  refine sy_vi (rest := []) fx hA X hl.1 (sy_OReader_o ht) (sy_en6 (sy_OReader_o ht).2) rfl (c_Reader_isNext l ht hc3) cv_Reader_isNext wm_264 ⟨Nat.le_of_ble_eq_true rfl, Nat.le_of_ble_eq_true rfl, Nat.le_refl _, Nat.le_refl _⟩ rfl rfl (Nat.le_of_ble_eq_true rfl) dX6_readEnd_3 (fun H locs X => ?_)
  refine lv_if_eq (tgt := 22) hx hb dX6_readEnd_6 (by decide) (fun c4 => ?_) (fun c4 => ?_)
  · have h := sy_t c4 h
    refine lv_aload_n hx hb dX6_readEnd_22 rfl (lv_at hl 0 rfl) ?_
    refine lv_iconst (v := 1) hx hb dX6_readEnd_23 (by decide) ?_
    refine lv_aload_n hx hb dX6_readEnd_24 rfl (lv_at hl 0 rfl) ?_
    refine sy_g6 fx X (sy_OReader_o ht) 5 (by decide) wm_227 (fun _ h9 => h9) rfl dX6_readEnd_25 ?_
    obtain ⟨r6, S5, hc7, h⟩ := sy_c_e h
    refine sy_vv (rest := []) fx hA X hl.1 (sy_OReader_o ht) (sy_en6 (sy_OReader_o ht).2) rfl (c_Reader_fail l ht hc7) cv_Reader_fail wm_248 ⟨Nat.le_of_ble_eq_true rfl, Nat.le_of_ble_eq_true rfl, Nat.le_refl _, Nat.le_refl _⟩ rfl rfl (Nat.le_of_ble_eq_true rfl) dX6_readEnd_28 (fun H locs X => ?_)
    exact sy_vret fx X hr hlk h dX6_readEnd_31
  · have h := sy_f c4 h
    refine lv_aload_n hx hb dX6_readEnd_9 rfl (lv_at hl 0 rfl) ?_
    refine lv_dup hx hb dX6_readEnd_10 rfl ?_
    refine sy_g6 fx X (sy_OReader_o ht) 5 (by decide) wm_227 (fun _ h9 => h9) rfl dX6_readEnd_11 ?_
    refine lv_iconst (v := 1) hx hb dX6_readEnd_14 (by decide) ?_
    refine lv_iadd hx hb dX6_readEnd_15 ?_
    obtain ⟨S8, hS8, h⟩ := sy_b_e h
    refine sy_p6 fx X (sy_OReader_o ht) 5 (by decide) wm_227 (fun _ h9 => h9) rfl (ty := .int) (by decide +kernel) rfl rfl hS8 sy_s6_5 dX6_readEnd_16 (fun H locs X => ?_)
    refine lv_goto (tgt := 31) hx hb dX6_readEnd_19 (by decide) ?_
    exact sy_vret fx X hr hlk h dX6_readEnd_31
def m_Reader_readWeights_B24 (kk24 : Int32 → Int32 → sy_St → sy_R) (y1 : Int32) (y2 : Int32) (S : sy_St) : sy_R := if 12 ≤ y2 then (sy_c (m_Reader_readEnd S) fun r7 S6 => some (0, S6)) else (if y1 = 0 then (sy_c (m_Reader_readEnd S) fun r11 S10 => some (0, S10)) else (sy_b (sy_up S 35 5 ((S 35 5) + 1)) fun S13 => sy_c (m_Reader_readNumber 0 30 S13) fun r15 S14 => sy_c (m_Edge_addWeight 37 r15 S14) fun r18 S17 => sy_c (m_Reader_isNext 44 S17) fun r21 S20 => sy_b (y2 + 1 : Int32) fun x23 => kk24 r21 x23 S20))
def m_Reader_readWeights (S : sy_St) : sy_R := if (S 37 7) ≤ 0 then (sy_fix (fun _ _ _ => none) (m_Reader_readWeights_B24) sy_F 1 0 S) else (sy_c (m_Reader_fail 3 (S 35 5) S) fun r3 S2 => some (0, S2))
theorem cv_Reader_readWeights : sy_cV RX6 yX6_readWeights cX6_readWeights 4 none 0 := ⟨wm_245, wm_246, wm_21, wm_247, by decide +kernel⟩
set_option maxRecDepth 100000 in
set_option maxHeartbeats 40000000 in
theorem c_Reader_readWeights (l : Launch) {E : sy_ET} (ht : sy_OReader E) {S S' : sy_St} {r : Int32} (h : m_Reader_readWeights S = some (r, S')) : sy_MV l yX6_readWeights cX6_readWeights 4 3 61 [.ref (sy_ad E 35)] E S S' := by
  refine sy_MV_of RX6 pn_6 rfl (Nat.le_of_ble_eq_true rfl) (fun p e s m args below meth c A ls fx hr hlk hA X hl => ?_)
  have hx := fx.1
  have hb := fx.2.1
  have hown := fx.2.2.2.1
  have hts := fx.2.2.2.2
  have hl : lv_has ls 4 [(0, .ref (sy_ad E 35))] := hl
  have L_24 : ∀ (n24 : Nat) (y1 y2 : Int32) (S : sy_St) (H : Heap) (locs : List Loc) (ls : Array Slot), sy_Wd E A s S H locs → lv_has ls 4 [(0, .ref (sy_ad E 35)), (1, .int y1), (2, .int y2)] → sy_fix (fun _ _ _ => none) (m_Reader_readWeights_B24) n24 y1 y2 S = some (r, S') → W p l e (sy_rm 3 61) s m args below meth c H locs 0 0 (MQ below (sy_Qv E A S') args s 0 0 A) (F0 m 24 ls []) := by
    intro n24
    induction n24 with
    | zero => intro y1 y2 S H locs ls X hl h; have h9 : (none : sy_R) = some (r, S') := h; cases h9
    | succ n24 ih24 =>
      intro y1 y2 S H locs ls X hl h
      have h : m_Reader_readWeights_B24 (sy_fix (fun _ _ _ => none) (m_Reader_readWeights_B24) n24) y1 y2 S = some (r, S') := h
      unfold m_Reader_readWeights_B24 at h
      refine lv_iload_n hx hb dX6_readWeights_24 rfl (lv_at hl 2 rfl) ?_
      refine lv_bipush (v := 12) hx hb dX6_readWeights_25 (by decide) ?_
      refine lv_icmp_ge (tgt := 73) hx hb dX6_readWeights_27 (by decide) (fun c5 => ?_) (fun c5 => ?_)
      · have h := sy_t c5 h
        refine lv_aload_n hx hb dX6_readWeights_73 rfl (lv_at hl 0 rfl) ?_
        obtain ⟨r7, S6, hc8, h⟩ := sy_c_e h
        refine sy_vv (rest := []) fx hA X hl.1 (sy_OReader_o ht) (sy_en6 (sy_OReader_o ht).2) rfl (c_Reader_readEnd l ht hc8) cv_Reader_readEnd wm_268 ⟨Nat.le_of_ble_eq_true rfl, Nat.le_of_ble_eq_true rfl, Nat.le_refl _, Nat.le_refl _⟩ rfl rfl (Nat.le_of_ble_eq_true rfl) dX6_readWeights_74 (fun H locs X => ?_)
        exact sy_vret fx X hr hlk h dX6_readWeights_77
      · have h := sy_f c5 h
        refine lv_iload_n hx hb dX6_readWeights_30 rfl (lv_at hl 1 rfl) ?_
        refine lv_if_eq (tgt := 73) hx hb dX6_readWeights_31 (by decide) (fun c9 => ?_) (fun c9 => ?_)
        · have h := sy_t c9 h
          refine lv_aload_n hx hb dX6_readWeights_73 rfl (lv_at hl 0 rfl) ?_
          obtain ⟨r11, S10, hc12, h⟩ := sy_c_e h
          refine sy_vv (rest := []) fx hA X hl.1 (sy_OReader_o ht) (sy_en6 (sy_OReader_o ht).2) rfl (c_Reader_readEnd l ht hc12) cv_Reader_readEnd wm_268 ⟨Nat.le_of_ble_eq_true rfl, Nat.le_of_ble_eq_true rfl, Nat.le_refl _, Nat.le_refl _⟩ rfl rfl (Nat.le_of_ble_eq_true rfl) dX6_readWeights_74 (fun H locs X => ?_)
          exact sy_vret fx X hr hlk h dX6_readWeights_77
        · have h := sy_f c9 h
          refine lv_aload_n hx hb dX6_readWeights_34 rfl (lv_at hl 0 rfl) ?_
          refine lv_dup hx hb dX6_readWeights_35 rfl ?_
          refine sy_g6 fx X (sy_OReader_o ht) 5 (by decide) wm_227 (fun _ h9 => h9) rfl dX6_readWeights_36 ?_
          refine lv_iconst (v := 1) hx hb dX6_readWeights_39 (by decide) ?_
          refine lv_iadd hx hb dX6_readWeights_40 ?_
          obtain ⟨S13, hS13, h⟩ := sy_b_e h
          refine sy_p6 fx X (sy_OReader_o ht) 5 (by decide) wm_227 (fun _ h9 => h9) rfl (ty := .int) (by decide +kernel) rfl rfl hS13 sy_s6_5 dX6_readWeights_41 (fun H locs X => ?_)
          refine lv_aload_n hx hb dX6_readWeights_44 rfl (lv_at hl 0 rfl) ?_
          refine lv_iconst (v := 0) hx hb dX6_readWeights_45 (by decide) ?_
          refine lv_bipush (v := 30) hx hb dX6_readWeights_46 (by decide) ?_
          obtain ⟨r15, S14, hc16, h⟩ := sy_c_e h
          refine sy_vi (rest := []) fx hA X hl.1 (sy_OReader_o ht) (sy_en6 (sy_OReader_o ht).2) rfl (c_Reader_readNumber l ht hc16) cv_Reader_readNumber wm_252 ⟨Nat.le_of_ble_eq_true rfl, Nat.le_of_ble_eq_true rfl, Nat.le_refl _, Nat.le_refl _⟩ rfl rfl (Nat.le_of_ble_eq_true rfl) dX6_readWeights_48 (fun H locs X => ?_)
          refine lv_istore_n (lv' := [(3, .int r15), (0, .ref (sy_ad E 35)), (1, .int y1), (2, .int y2)]) hx hb dX6_readWeights_51 rfl hl (by decide) rfl (fun ls hl => ?_)
          refine lv_aload_n hx hb dX6_readWeights_52 rfl (lv_at hl 1 rfl) ?_
          refine sy_q6 fx X (sy_OReader_o ht) 1 (by decide) wm_108 (fun _ h9 => h9) rfl (sy_OReader_r1 ht) dX6_readWeights_53 ?_
          refine lv_iload_n hx hb dX6_readWeights_56 rfl (lv_at hl 0 rfl) ?_
          obtain ⟨r18, S17, hc19, h⟩ := sy_c_e h
          refine sy_vv (rest := []) fx hA X hl.1 (sy_OEdge_o (sy_OReader_a1 ht)) (sy_en3 (sy_OEdge_o (sy_OReader_a1 ht)).2) rfl (c_Edge_addWeight l (sy_OReader_a1 ht) hc19) cv_Edge_addWeight wm_260 ⟨Nat.le_of_ble_eq_true rfl, Nat.le_of_ble_eq_true rfl, Nat.le_refl _, Nat.le_refl _⟩ rfl rfl (Nat.le_of_ble_eq_true rfl) dX6_readWeights_57 (fun H locs X => ?_)
          refine lv_aload_n hx hb dX6_readWeights_60 rfl (lv_at hl 1 rfl) ?_
          refine lv_bipush (v := 44) hx hb dX6_readWeights_61 (by decide) ?_
          obtain ⟨r21, S20, hc22, h⟩ := sy_c_e h
          refine sy_vi (rest := []) fx hA X hl.1 (sy_OReader_o ht) (sy_en6 (sy_OReader_o ht).2) rfl (c_Reader_isNext l ht hc22) cv_Reader_isNext wm_264 ⟨Nat.le_of_ble_eq_true rfl, Nat.le_of_ble_eq_true rfl, Nat.le_refl _, Nat.le_refl _⟩ rfl rfl (Nat.le_of_ble_eq_true rfl) dX6_readWeights_63 (fun H locs X => ?_)
          refine lv_istore_n (lv' := [(1, .int r21), (3, .int r15), (0, .ref (sy_ad E 35)), (2, .int y2)]) hx hb dX6_readWeights_66 rfl hl (by decide) rfl (fun ls hl => ?_)
          obtain ⟨x23, hx23, h⟩ := sy_b_e h
          refine lv_iinc (v := x23) (lv' := [(2, .int x23), (1, .int r21), (3, .int r15), (0, .ref (sy_ad E 35))]) hx hb dX6_readWeights_67 hl (k := 3) rfl (by rw [hx23]; rfl) (by decide) rfl (fun ls hl => ?_)
          refine lv_goto (tgt := 24) hx hb dX6_readWeights_70 (by decide) ?_
          exact ih24 r21 x23 S20 _ _ _ X (lv_sub hl [3, 1, 0] rfl) h
  unfold m_Reader_readWeights at h
  refine lv_aload_n hx hb dX6_readWeights_0 rfl (lv_at hl 0 rfl) ?_
  refine sy_q6 fx X (sy_OReader_o ht) 1 (by decide) wm_108 (fun _ h9 => h9) rfl (sy_OReader_r1 ht) dX6_readWeights_1 ?_
  refine sy_g3 fx X (sy_OEdge_o (sy_OReader_a1 ht)) 7 (by decide) wm_243 (fun _ h9 => h9) rfl dX6_readWeights_4 ?_
  refine lv_if_le (tgt := 20) hx hb dX6_readWeights_7 (by decide) (fun c1 => ?_) (fun c1 => ?_)
  · have h := sy_t c1 h
    refine lv_iconst (v := 1) hx hb dX6_readWeights_20 (by decide) ?_
    refine lv_istore_n (lv' := [(1, .int 1), (0, .ref (sy_ad E 35))]) hx hb dX6_readWeights_21 rfl hl (by decide) rfl (fun ls hl => ?_)
    refine lv_iconst (v := 0) hx hb dX6_readWeights_22 (by decide) ?_
    refine lv_istore_n (lv' := [(2, .int 0), (1, .int 1), (0, .ref (sy_ad E 35))]) hx hb dX6_readWeights_23 rfl hl (by decide) rfl (fun ls hl => ?_)
    exact L_24 sy_F 1 0 S _ _ _ X (lv_sub hl [2, 1, 0] rfl) h
  · have h := sy_f c1 h
    refine lv_aload_n hx hb dX6_readWeights_10 rfl (lv_at hl 0 rfl) ?_
    refine lv_iconst (v := 3) hx hb dX6_readWeights_11 (by decide) ?_
    refine lv_aload_n hx hb dX6_readWeights_12 rfl (lv_at hl 0 rfl) ?_
    refine sy_g6 fx X (sy_OReader_o ht) 5 (by decide) wm_227 (fun _ h9 => h9) rfl dX6_readWeights_13 ?_
    obtain ⟨r3, S2, hc4, h⟩ := sy_c_e h
    refine sy_vv (rest := []) fx hA X hl.1 (sy_OReader_o ht) (sy_en6 (sy_OReader_o ht).2) rfl (c_Reader_fail l ht hc4) cv_Reader_fail wm_248 ⟨Nat.le_of_ble_eq_true rfl, Nat.le_of_ble_eq_true rfl, Nat.le_refl _, Nat.le_refl _⟩ rfl rfl (Nat.le_of_ble_eq_true rfl) dX6_readWeights_16 (fun H locs X => ?_)
    exact sy_vret fx X hr hlk h dX6_readWeights_19
