def m_Sky_begin_B2 (k : Nat) (kk2 : Int32 → sy_St → sy_R) (y1 : Int32) (S : sy_St) : sy_R := if 6 ≤ y1 then (sy_b (sy_up S k 5 0) fun S2 => sy_b (sy_up S2 k 6 0) fun S3 => sy_b (sy_up S3 k 7 0) fun S4 => sy_b (sy_up S4 k 8 (S4 1 9)) fun S5 => if (S5 1 8) ≤ 0 then (sy_b (sy_up S5 k 9 (-1)) fun S7 => sy_b (sy_up S7 k 10 (-1)) fun S8 => some (0, S8)) else (sy_b (sy_up S5 k 9 0) fun S9 => sy_b (sy_up S9 k 10 (-1)) fun S10 => some (0, S10))) else (sy_g (sy_in y1 6) <| sy_b (sy_up S (k + 1) y1.toNatClampNeg 0) fun S12 => sy_g (sy_in y1 6) <| sy_b (sy_up S12 (k + 2) y1.toNatClampNeg 0) fun S14 => sy_g (sy_in y1 6) <| sy_b (sy_up S14 (k + 3) y1.toNatClampNeg 0) fun S16 => sy_g (sy_in y1 6) <| sy_b (sy_up S16 (k + 4) y1.toNatClampNeg 0) fun S18 => sy_b (y1 + 1 : Int32) fun x19 => kk2 x19 S18)
def m_Sky_begin (k : Nat) (S : sy_St) : sy_R := sy_fix (fun _ _ => none) (m_Sky_begin_B2 k) sy_F 0 S
theorem cv_Sky_begin : sy_cV RX10 yX10_begin cX10_begin 2 none 0 := ⟨wm_92, wm_93, wm_17, wm_94, by decide +kernel⟩
set_option maxRecDepth 100000 in
set_option maxHeartbeats 40000000 in
theorem c_Sky_begin (l : Launch) {E : sy_ET} {k : Nat} (ht : sy_OSky E k) {S S' : sy_St} {r : Int32} (h : m_Sky_begin k S = some (r, S')) : sy_MV l yX10_begin cX10_begin 2 0 0 [.ref (sy_ad E k)] E S S' := by
  refine sy_MV_of RX10 pn_10 rfl (Nat.le_of_ble_eq_true rfl) (fun p e s m args below meth c A ls fx hr hlk hA X hl => ?_)
  have hx := fx.1
  have hb := fx.2.1
  have hown := fx.2.2.2.1
  have hts := fx.2.2.2.2
  have hl : lv_has ls 2 [(0, .ref (sy_ad E k))] := hl
  have L_2 : ∀ (n2 : Nat) (y1 : Int32) (S : sy_St) (H : Heap) (locs : List Loc) (ls : Array Slot), sy_Wd E A s S H locs → lv_has ls 2 [(0, .ref (sy_ad E k)), (1, .int y1)] → sy_fix (fun _ _ => none) (m_Sky_begin_B2 k) n2 y1 S = some (r, S') → W p l e (sy_rm 0 0) s m args below meth c H locs 0 0 (MQ below (sy_Qv E A S') args s 0 0 A) (F0 m 2 ls []) := by
    intro n2
    induction n2 with
    | zero => intro y1 S H locs ls X hl h; have h9 : (none : sy_R) = some (r, S') := h; cases h9
    | succ n2 ih2 =>
      intro y1 S H locs ls X hl h
      have h : m_Sky_begin_B2 k (sy_fix (fun _ _ => none) (m_Sky_begin_B2 k) n2) y1 S = some (r, S') := h
      unfold m_Sky_begin_B2 at h
      refine lv_iload_n hx hb dX10_begin_2 rfl (lv_at hl 1 rfl) ?_
      refine lv_bipush (v := 6) hx hb dX10_begin_3 (by decide) ?_
      refine lv_icmp_ge (tgt := 42) hx hb dX10_begin_5 (by decide) (fun c1 => ?_) (fun c1 => ?_)
      · have h := sy_t c1 h
        refine lv_aload_n hx hb dX10_begin_42 rfl (lv_at hl 0 rfl) ?_
        refine lv_iconst (v := 0) hx hb dX10_begin_43 (by decide) ?_
        obtain ⟨S2, hS2, h⟩ := sy_b_e h
        refine sy_p9 fx X (sy_OSky_o ht) 5 (by decide) wm_95 (fun _ h9 => h9) rfl (ty := .int) (by decide +kernel) rfl rfl hS2 sy_s9_5 dX10_begin_44 (fun H locs X => ?_)
        refine lv_aload_n hx hb dX10_begin_47 rfl (lv_at hl 0 rfl) ?_
        refine lv_iconst (v := 0) hx hb dX10_begin_48 (by decide) ?_
        obtain ⟨S3, hS3, h⟩ := sy_b_e h
        refine sy_p9 fx X (sy_OSky_o ht) 6 (by decide) wm_96 (fun _ h9 => h9) rfl (ty := .int) (by decide +kernel) rfl rfl hS3 sy_s9_6 dX10_begin_49 (fun H locs X => ?_)
        refine lv_aload_n hx hb dX10_begin_52 rfl (lv_at hl 0 rfl) ?_
        refine lv_iconst (v := 0) hx hb dX10_begin_53 (by decide) ?_
        obtain ⟨S4, hS4, h⟩ := sy_b_e h
        refine sy_p9 fx X (sy_OSky_o ht) 7 (by decide) wm_97 (fun _ h9 => h9) rfl (ty := .int) (by decide +kernel) rfl rfl hS4 sy_s9_7 dX10_begin_54 (fun H locs X => ?_)
        refine lv_aload_n hx hb dX10_begin_57 rfl (lv_at hl 0 rfl) ?_
        refine lv_aload_n hx hb dX10_begin_58 rfl (lv_at hl 0 rfl) ?_
        refine sy_q9 fx X (sy_OSky_o ht) 0 (by decide) wm_90 (fun _ h9 => h9) rfl (sy_OSky_r0 ht) dX10_begin_59 ?_
        refine sy_g3 fx X (sy_OEdge_o (sy_OSky_a0 ht)) 9 (by decide) wm_98 (fun _ h9 => h9) rfl dX10_begin_62 ?_
        obtain ⟨S5, hS5, h⟩ := sy_b_e h
        refine sy_p9 fx X (sy_OSky_o ht) 8 (by decide) wm_99 (fun _ h9 => h9) rfl (ty := .int) (by decide +kernel) rfl rfl hS5 sy_s9_8 dX10_begin_65 (fun H locs X => ?_)
        refine lv_aload_n hx hb dX10_begin_68 rfl (lv_at hl 0 rfl) ?_
        refine lv_aload_n hx hb dX10_begin_69 rfl (lv_at hl 0 rfl) ?_
        refine sy_q9 fx X (sy_OSky_o ht) 0 (by decide) wm_90 (fun _ h9 => h9) rfl (sy_OSky_r0 ht) dX10_begin_70 ?_
        refine sy_g3 fx X (sy_OEdge_o (sy_OSky_a0 ht)) 8 (by decide) wm_100 (fun _ h9 => h9) rfl dX10_begin_73 ?_
        refine lv_if_le (tgt := 83) hx hb dX10_begin_76 (by decide) (fun c6 => ?_) (fun c6 => ?_)
        · have h := sy_t c6 h
          refine lv_iconst (v := (-1)) hx hb dX10_begin_83 (by decide) ?_
          obtain ⟨S7, hS7, h⟩ := sy_b_e h
          refine sy_p9 fx X (sy_OSky_o ht) 9 (by decide) wm_101 (fun _ h9 => h9) rfl (ty := .int) (by decide +kernel) rfl rfl hS7 sy_s9_9 dX10_begin_84 (fun H locs X => ?_)
          refine lv_aload_n hx hb dX10_begin_87 rfl (lv_at hl 0 rfl) ?_
          refine lv_iconst (v := (-1)) hx hb dX10_begin_88 (by decide) ?_
          obtain ⟨S8, hS8, h⟩ := sy_b_e h
          refine sy_p9 fx X (sy_OSky_o ht) 10 (by decide) wm_102 (fun _ h9 => h9) rfl (ty := .int) (by decide +kernel) rfl rfl hS8 sy_s9_10 dX10_begin_89 (fun H locs X => ?_)
          exact sy_vret fx X hr hlk h dX10_begin_92
        · have h := sy_f c6 h
          refine lv_iconst (v := 0) hx hb dX10_begin_79 (by decide) ?_
          refine lv_goto (tgt := 84) hx hb dX10_begin_80 (by decide) ?_
          obtain ⟨S9, hS9, h⟩ := sy_b_e h
          refine sy_p9 fx X (sy_OSky_o ht) 9 (by decide) wm_101 (fun _ h9 => h9) rfl (ty := .int) (by decide +kernel) rfl rfl hS9 sy_s9_9 dX10_begin_84 (fun H locs X => ?_)
          refine lv_aload_n hx hb dX10_begin_87 rfl (lv_at hl 0 rfl) ?_
          refine lv_iconst (v := (-1)) hx hb dX10_begin_88 (by decide) ?_
          obtain ⟨S10, hS10, h⟩ := sy_b_e h
          refine sy_p9 fx X (sy_OSky_o ht) 10 (by decide) wm_102 (fun _ h9 => h9) rfl (ty := .int) (by decide +kernel) rfl rfl hS10 sy_s9_10 dX10_begin_89 (fun H locs X => ?_)
          exact sy_vret fx X hr hlk h dX10_begin_92
      · have h := sy_f c1 h
        refine lv_aload_n hx hb dX10_begin_8 rfl (lv_at hl 0 rfl) ?_
        refine sy_q9 fx X (sy_OSky_o ht) 1 (by decide) wm_86 (fun _ h9 => h9) rfl (sy_OSky_r1 ht) dX10_begin_9 ?_
        refine lv_iload_n hx hb dX10_begin_12 rfl (lv_at hl 1 rfl) ?_
        refine lv_iconst (v := 0) hx hb dX10_begin_13 (by decide) ?_
        obtain ⟨g11, h⟩ := sy_g_e h
        obtain ⟨S12, hS12, h⟩ := sy_b_e h
        refine sy_iast fx X (sy_OSky_a1 ht) g11 hS12 dX10_begin_14 (fun H locs X => ?_)
        refine lv_aload_n hx hb dX10_begin_15 rfl (lv_at hl 0 rfl) ?_
        refine sy_q9 fx X (sy_OSky_o ht) 2 (by decide) wm_87 (fun _ h9 => h9) rfl (sy_OSky_r2 ht) dX10_begin_16 ?_
        refine lv_iload_n hx hb dX10_begin_19 rfl (lv_at hl 1 rfl) ?_
        refine lv_iconst (v := 0) hx hb dX10_begin_20 (by decide) ?_
        obtain ⟨g13, h⟩ := sy_g_e h
        obtain ⟨S14, hS14, h⟩ := sy_b_e h
        refine sy_iast fx X (sy_OSky_a2 ht) g13 hS14 dX10_begin_21 (fun H locs X => ?_)
        refine lv_aload_n hx hb dX10_begin_22 rfl (lv_at hl 0 rfl) ?_
        refine sy_q9 fx X (sy_OSky_o ht) 3 (by decide) wm_88 (fun _ h9 => h9) rfl (sy_OSky_r3 ht) dX10_begin_23 ?_
        refine lv_iload_n hx hb dX10_begin_26 rfl (lv_at hl 1 rfl) ?_
        refine lv_iconst (v := 0) hx hb dX10_begin_27 (by decide) ?_
        obtain ⟨g15, h⟩ := sy_g_e h
        obtain ⟨S16, hS16, h⟩ := sy_b_e h
        refine sy_iast fx X (sy_OSky_a3 ht) g15 hS16 dX10_begin_28 (fun H locs X => ?_)
        refine lv_aload_n hx hb dX10_begin_29 rfl (lv_at hl 0 rfl) ?_
        refine sy_q9 fx X (sy_OSky_o ht) 4 (by decide) wm_89 (fun _ h9 => h9) rfl (sy_OSky_r4 ht) dX10_begin_30 ?_
        refine lv_iload_n hx hb dX10_begin_33 rfl (lv_at hl 1 rfl) ?_
        refine lv_iconst (v := 0) hx hb dX10_begin_34 (by decide) ?_
        obtain ⟨g17, h⟩ := sy_g_e h
        obtain ⟨S18, hS18, h⟩ := sy_b_e h
        refine sy_iast fx X (sy_OSky_a4 ht) g17 hS18 dX10_begin_35 (fun H locs X => ?_)
        obtain ⟨x19, hx19, h⟩ := sy_b_e h
        refine lv_iinc (v := x19) (lv' := [(1, .int x19), (0, .ref (sy_ad E k))]) hx hb dX10_begin_36 hl (k := 1) rfl (by rw [hx19]; rfl) (by decide) rfl (fun ls hl => ?_)
        refine lv_goto (tgt := 2) hx hb dX10_begin_39 (by decide) ?_
        exact ih2 x19 S18 _ _ _ X (lv_sub hl [1, 0] rfl) h
  unfold m_Sky_begin at h
  refine lv_iconst (v := 0) hx hb dX10_begin_0 (by decide) ?_
  refine lv_istore_n (lv' := [(1, .int 0), (0, .ref (sy_ad E k))]) hx hb dX10_begin_1 rfl hl (by decide) rfl (fun ls hl => ?_)
  exact L_2 sy_F 0 S _ _ _ X (lv_sub hl [1, 0] rfl) h
def m_Sky_forceHeld (k : Nat) (S : sy_St) : sy_R := sy_c (m_Sky_forceOf k (S k 9) S) fun r2 S1 => sy_c (m_Sky_forceOf k (S1 k 10) S1) fun r5 S4 => some (r2 + r5, S4)
theorem cv_Sky_forceHeld : sy_cV RX10 yX10_forceHeld cX10_forceHeld 1 (some .int) 0 := ⟨wm_403, wm_404, wm_17, wm_405, by decide +kernel⟩
set_option maxRecDepth 100000 in
set_option maxHeartbeats 40000000 in
theorem c_Sky_forceHeld (l : Launch) {E : sy_ET} {k : Nat} (ht : sy_OSky E k) {S S' : sy_St} {r : Int32} (h : m_Sky_forceHeld k S = some (r, S')) : sy_MI l yX10_forceHeld cX10_forceHeld 1 (some .int) 2 54 [.ref (sy_ad E k)] E S r S' := by
  refine sy_MI_of RX10 pn_10 rfl (Nat.le_of_ble_eq_true rfl) (fun p e s m args below meth c A ls fx hr hlk hA X hl => ?_)
  have hx := fx.1
  have hb := fx.2.1
  have hown := fx.2.2.2.1
  have hts := fx.2.2.2.2
  have hl : lv_has ls 1 [(0, .ref (sy_ad E k))] := hl
  unfold m_Sky_forceHeld at h
  refine lv_aload_n hx hb dX10_forceHeld_0 rfl (lv_at hl 0 rfl) ?_
  refine lv_aload_n hx hb dX10_forceHeld_1 rfl (lv_at hl 0 rfl) ?_
  refine sy_g9 fx X (sy_OSky_o ht) 9 (by decide) wm_101 (fun _ h9 => h9) rfl dX10_forceHeld_2 ?_
  obtain ⟨r2, S1, hc3, h⟩ := sy_c_e h
  refine sy_vi (rest := []) fx hA X hl.1 (sy_OSky_o ht) (sy_en9 (sy_OSky_o ht).2) rfl (c_Sky_forceOf l ht hc3) cv_Sky_forceOf wm_406 ⟨Nat.le_of_ble_eq_true rfl, Nat.le_of_ble_eq_true rfl, Nat.le_refl _, Nat.le_refl _⟩ rfl rfl (Nat.le_of_ble_eq_true rfl) dX10_forceHeld_5 (fun H locs X => ?_)
  refine lv_aload_n hx hb dX10_forceHeld_8 rfl (lv_at hl 0 rfl) ?_
  refine lv_aload_n hx hb dX10_forceHeld_9 rfl (lv_at hl 0 rfl) ?_
  refine sy_g9 fx X (sy_OSky_o ht) 10 (by decide) wm_102 (fun _ h9 => h9) rfl dX10_forceHeld_10 ?_
  obtain ⟨r5, S4, hc6, h⟩ := sy_c_e h
  refine sy_vi (rest := [.int r2]) fx hA X hl.1 (sy_OSky_o ht) (sy_en9 (sy_OSky_o ht).2) rfl (c_Sky_forceOf l ht hc6) cv_Sky_forceOf wm_406 ⟨Nat.le_of_ble_eq_true rfl, Nat.le_of_ble_eq_true rfl, Nat.le_refl _, Nat.le_refl _⟩ rfl rfl (Nat.le_of_ble_eq_true rfl) dX10_forceHeld_13 (fun H locs X => ?_)
  refine lv_iadd hx hb dX10_forceHeld_16 ?_
  exact sy_iret fx X hr hlk h dX10_forceHeld_17
def m_Sky_passHour (k : Nat) (p0 : Int32) (S : sy_St) : sy_R := sy_c (m_Sky_lowBehind k (S k 9) (S k 10) p0 S) fun r2 S1 => sy_c (m_Sky_endHour k r2 S1) fun r5 S4 => some (0, S4)
theorem cv_Sky_passHour : sy_cV RX10 yX10_passHour cX10_passHour 2 none 1 := ⟨wm_500, wm_501, wm_17, wm_502, by decide +kernel⟩
set_option maxRecDepth 100000 in
set_option maxHeartbeats 40000000 in
theorem c_Sky_passHour (l : Launch) {E : sy_ET} {k : Nat} (ht : sy_OSky E k) {p0 : Int32} {S S' : sy_St} {r : Int32} (h : m_Sky_passHour k p0 S = some (r, S')) : sy_MV l yX10_passHour cX10_passHour 2 3 81 [.ref (sy_ad E k), .int p0] E S S' := by
  refine sy_MV_of RX10 pn_10 rfl (Nat.le_of_ble_eq_true rfl) (fun p e s m args below meth c A ls fx hr hlk hA X hl => ?_)
  have hx := fx.1
  have hb := fx.2.1
  have hown := fx.2.2.2.1
  have hts := fx.2.2.2.2
  have hl : lv_has ls 2 [(0, .ref (sy_ad E k)), (1, .int p0)] := hl
  unfold m_Sky_passHour at h
  refine lv_aload_n hx hb dX10_passHour_0 rfl (lv_at hl 0 rfl) ?_
  refine lv_aload_n hx hb dX10_passHour_1 rfl (lv_at hl 0 rfl) ?_
  refine lv_aload_n hx hb dX10_passHour_2 rfl (lv_at hl 0 rfl) ?_
  refine sy_g9 fx X (sy_OSky_o ht) 9 (by decide) wm_101 (fun _ h9 => h9) rfl dX10_passHour_3 ?_
  refine lv_aload_n hx hb dX10_passHour_6 rfl (lv_at hl 0 rfl) ?_
  refine sy_g9 fx X (sy_OSky_o ht) 10 (by decide) wm_102 (fun _ h9 => h9) rfl dX10_passHour_7 ?_
  refine lv_iload_n hx hb dX10_passHour_10 rfl (lv_at hl 1 rfl) ?_
  obtain ⟨r2, S1, hc3, h⟩ := sy_c_e h
  refine sy_vi (rest := [.ref (sy_ad E k)]) fx hA X hl.1 (sy_OSky_o ht) (sy_en9 (sy_OSky_o ht).2) rfl (c_Sky_lowBehind l ht hc3) cv_Sky_lowBehind wm_503 ⟨Nat.le_of_ble_eq_true rfl, Nat.le_of_ble_eq_true rfl, Nat.le_refl _, Nat.le_refl _⟩ rfl rfl (Nat.le_of_ble_eq_true rfl) dX10_passHour_11 (fun H locs X => ?_)
  obtain ⟨r5, S4, hc6, h⟩ := sy_c_e h
  refine sy_vv (rest := []) fx hA X hl.1 (sy_OSky_o ht) (sy_en9 (sy_OSky_o ht).2) rfl (c_Sky_endHour l ht hc6) cv_Sky_endHour wm_509 ⟨Nat.le_of_ble_eq_true rfl, Nat.le_of_ble_eq_true rfl, Nat.le_refl _, Nat.le_refl _⟩ rfl rfl (Nat.le_of_ble_eq_true rfl) dX10_passHour_14 (fun H locs X => ?_)
  exact sy_vret fx X hr hlk h dX10_passHour_17
def m_Top_chain (p0 : Int32) (p1 : Int32) (S : sy_St) : sy_R := sy_c (m_Edge_isPerson 1 p0 S) fun r2 S1 => if r2 = 0 then (some ((-1000000001), S1)) else (sy_c (m_Chain_find 45 p0 S1) fun r6 S5 => if p1 = (-1) then (some (S5 379 5, S5)) else (sy_c (m_Chain_holderAt p1 S5) fun r10 S9 => some (r10, S9)))
theorem cv_Top_chain : sy_cV RX11 yX11_chain cX11_chain 3 (some .int) 2 := ⟨wm_795, wm_796, wm_2, wm_797, by decide +kernel⟩
set_option maxRecDepth 100000 in
set_option maxHeartbeats 40000000 in
theorem c_Top_chain (l : Launch) {E : sy_ET} (ht : sy_OTop E) {p0 : Int32} {p1 : Int32} {S S' : sy_St} {r : Int32} (h : m_Top_chain p0 p1 S = some (r, S')) : sy_MI l yX11_chain cX11_chain 3 (some .int) 6 135 [.ref (sy_ad E 0), .int p0, .int p1] E S r S' := by
  refine sy_MI_of RX11 pn_11 rfl (Nat.le_of_ble_eq_true rfl) (fun p e s m args below meth c A ls fx hr hlk hA X hl => ?_)
  have hx := fx.1
  have hb := fx.2.1
  have hown := fx.2.2.2.1
  have hts := fx.2.2.2.2
  have hl : lv_has ls 3 [(0, .ref (sy_ad E 0)), (1, .int p0), (2, .int p1)] := hl
  unfold m_Top_chain at h
  refine lv_aload_n hx hb dX11_chain_0 rfl (lv_at hl 0 rfl) ?_
  refine sy_q10 fx X (sy_OTop_o ht) 0 (by decide) wm_18 (fun _ h9 => h9) rfl (sy_OTop_r0 ht) dX11_chain_1 ?_
  refine lv_iload_n hx hb dX11_chain_4 rfl (lv_at hl 1 rfl) ?_
  obtain ⟨r2, S1, hc3, h⟩ := sy_c_e h
  refine sy_vi (rest := []) fx hA X hl.1 (sy_OEdge_o (sy_OTop_a0 ht)) (sy_en3 (sy_OEdge_o (sy_OTop_a0 ht)).2) rfl (c_Edge_isPerson l (sy_OTop_a0 ht) hc3) cv_Edge_isPerson wm_451 ⟨Nat.le_of_ble_eq_true rfl, Nat.le_of_ble_eq_true rfl, Nat.le_refl _, Nat.le_refl _⟩ rfl rfl (Nat.le_of_ble_eq_true rfl) dX11_chain_5 (fun H locs X => ?_)
  refine lv_if_ne (tgt := 14) hx hb dX11_chain_8 (by decide) (fun c4 => ?_) (fun c4 => ?_)
  · have h := sy_f c4 h
    refine lv_aload_n hx hb dX11_chain_14 rfl (lv_at hl 0 rfl) ?_
    refine sy_q10 fx X (sy_OTop_o ht) 10 (by decide) wm_45 (fun _ h9 => h9) rfl (sy_OTop_r10 ht) dX11_chain_15 ?_
    refine lv_aload_n hx hb dX11_chain_18 rfl (lv_at hl 0 rfl) ?_
    refine sy_q10 fx X (sy_OTop_o ht) 2 (by decide) wm_23 (fun _ h9 => h9) rfl (sy_OTop_r2 ht) dX11_chain_19 ?_
    refine lv_iload_n hx hb dX11_chain_22 rfl (lv_at hl 1 rfl) ?_
    obtain ⟨r6, S5, hc7, h⟩ := sy_c_e h
    refine sy_vv (rest := []) fx hA X hl.1 (sy_OChain_o (sy_OTop_a10 ht)) (sy_en1 (sy_OChain_o (sy_OTop_a10 ht)).2) rfl (c_Chain_find l (sy_OTop_a10 ht) (sy_OTop_a2 ht) hc7) cv_Chain_find wm_799 ⟨Nat.le_of_ble_eq_true rfl, Nat.le_of_ble_eq_true rfl, Nat.le_refl _, Nat.le_refl _⟩ rfl rfl (Nat.le_of_ble_eq_true rfl) dX11_chain_23 (fun H locs X => ?_)
    refine lv_iload_n hx hb dX11_chain_26 rfl (lv_at hl 2 rfl) ?_
    refine lv_iconst (v := (-1)) hx hb dX11_chain_27 (by decide) ?_
    refine lv_icmp_ne (tgt := 41) hx hb dX11_chain_28 (by decide) (fun c8 => ?_) (fun c8 => ?_)
    · have h := sy_f c8 h
      refine lv_aload_n hx hb dX11_chain_41 rfl (lv_at hl 0 rfl) ?_
      refine sy_q10 fx X (sy_OTop_o ht) 10 (by decide) wm_45 (fun _ h9 => h9) rfl (sy_OTop_r10 ht) dX11_chain_42 ?_
      refine lv_iload_n hx hb dX11_chain_45 rfl (lv_at hl 2 rfl) ?_
      obtain ⟨r10, S9, hc11, h⟩ := sy_c_e h
      refine sy_vi (rest := []) fx hA X hl.1 (sy_OChain_o (sy_OTop_a10 ht)) (sy_en1 (sy_OChain_o (sy_OTop_a10 ht)).2) rfl (c_Chain_holderAt l (sy_OTop_a10 ht) hc11) cv_Chain_holderAt wm_828 ⟨Nat.le_of_ble_eq_true rfl, Nat.le_of_ble_eq_true rfl, Nat.le_refl _, Nat.le_refl _⟩ rfl rfl (Nat.le_of_ble_eq_true rfl) dX11_chain_46 (fun H locs X => ?_)
      exact sy_iret fx X hr hlk h dX11_chain_49
    · have h := sy_t c8 h
      refine lv_aload_n hx hb dX11_chain_31 rfl (lv_at hl 0 rfl) ?_
      refine sy_q10 fx X (sy_OTop_o ht) 10 (by decide) wm_45 (fun _ h9 => h9) rfl (sy_OTop_r10 ht) dX11_chain_32 ?_
      refine sy_g1 fx X (sy_OChain_o (sy_OTop_a10 ht)) 5 (by decide) wm_798 (fun _ h9 => h9) rfl dX11_chain_35 ?_
      refine lv_goto (tgt := 49) hx hb dX11_chain_38 (by decide) ?_
      exact sy_iret fx X hr hlk h dX11_chain_49
  · have h := sy_t c4 h
    refine lv_ldc (v := (-1000000001)) hx hb hown (hts _ wm_441) dX11_chain_11 ?_
    exact sy_iret fx X hr hlk h dX11_chain_13
def m_Top_draw (p0 : Int32) (S : sy_St) : sy_R := sy_b (sy_up S 0 15 (Int64.toInt32 ((((Int32.toInt64 (S 0 15)) * 1103515245) + 12345) &&& 2147483647))) fun S1 => if 1 ≤ p0 then (sy_g (¬ p0 = 0) <| some (((S1 0 15) / 65536) - ((S1 0 15) / 65536) / p0 * p0, S1)) else (some (0, S1))
theorem cv_Top_draw : sy_cV RX11 yX11_draw cX11_draw 2 (some .int) 1 := ⟨wm_651, wm_652, wm_2, wm_653, by decide +kernel⟩
set_option maxRecDepth 100000 in
set_option maxHeartbeats 40000000 in
theorem c_Top_draw (l : Launch) {E : sy_ET} (ht : sy_OTop E) {p0 : Int32} {S S' : sy_St} {r : Int32} (h : m_Top_draw p0 S = some (r, S')) : sy_MI l yX11_draw cX11_draw 2 (some .int) 0 0 [.ref (sy_ad E 0), .int p0] E S r S' := by
  refine sy_MI_of RX11 pn_11 rfl (Nat.le_of_ble_eq_true rfl) (fun p e s m args below meth c A ls fx hr hlk hA X hl => ?_)
  have hx := fx.1
  have hb := fx.2.1
  have hown := fx.2.2.2.1
  have hts := fx.2.2.2.2
  have hl : lv_has ls 2 [(0, .ref (sy_ad E 0)), (1, .int p0)] := hl
  unfold m_Top_draw at h
  refine lv_aload_n hx hb dX11_draw_0 rfl (lv_at hl 0 rfl) ?_
  refine lv_aload_n hx hb dX11_draw_1 rfl (lv_at hl 0 rfl) ?_
  refine sy_g10 fx X (sy_OTop_o ht) 15 (by decide) wm_59 (fun _ h9 => h9) rfl dX11_draw_2 ?_
  refine lv_i2l hx hb dX11_draw_5 rfl ?_
  refine lv_ldc2 (v := 1103515245) hx hb hown (hts _ wm_654) dX11_draw_6 ?_
  refine lv_lmul hx hb dX11_draw_9 ?_
  refine lv_ldc2 (v := 12345) hx hb hown (hts _ wm_655) dX11_draw_10 ?_
  refine lv_ladd hx hb dX11_draw_13 ?_
  refine lv_ldc2 (v := 2147483647) hx hb hown (hts _ wm_656) dX11_draw_14 ?_
  refine lv_land hx hb dX11_draw_17 ?_
  refine lv_l2i hx hb dX11_draw_18 rfl ?_
  obtain ⟨S1, hS1, h⟩ := sy_b_e h
  refine sy_p10 fx X (sy_OTop_o ht) 15 (by decide) wm_59 (fun _ h9 => h9) rfl (ty := .int) (by decide +kernel) rfl rfl hS1 sy_s10_15 dX11_draw_19 (fun H locs X => ?_)
  refine lv_iload_n hx hb dX11_draw_22 rfl (lv_at hl 1 rfl) ?_
  refine lv_iconst (v := 1) hx hb dX11_draw_23 (by decide) ?_
  refine lv_icmp_ge (tgt := 31) hx hb dX11_draw_24 (by decide) (fun c2 => ?_) (fun c2 => ?_)
  · have h := sy_t c2 h
    refine lv_aload_n hx hb dX11_draw_31 rfl (lv_at hl 0 rfl) ?_
    refine sy_g10 fx X (sy_OTop_o ht) 15 (by decide) wm_59 (fun _ h9 => h9) rfl dX11_draw_32 ?_
    refine lv_ldcw (v := 65536) hx hb hown (hts _ wm_657) dX11_draw_35 ?_
    refine lv_idiv hx hb dX11_draw_38 (by decide) ?_
    refine lv_iload_n hx hb dX11_draw_39 rfl (lv_at hl 1 rfl) ?_
    obtain ⟨g3, h⟩ := sy_g_e h
    refine lv_irem hx hb dX11_draw_40 g3 ?_
    exact sy_iret fx X hr hlk h dX11_draw_41
  · have h := sy_f c2 h
    refine lv_iconst (v := 0) hx hb dX11_draw_27 (by decide) ?_
    refine lv_goto (tgt := 41) hx hb dX11_draw_28 (by decide) ?_
    exact sy_iret fx X hr hlk h dX11_draw_41
def m_Top_passByDraw (S : sy_St) : sy_R := sy_c (m_Top_draw (S 1 8) S) fun r2 S1 => sy_c (m_Sky_isHolding 45 r2 S1) fun r5 S4 => if r5 = 0 then (sy_c (m_Sky_isFatherHolding 45 r2 S4) fun r9 S8 => if r9 = 0 then (sy_c (m_Top_draw 3 S8) fun r13 S12 => sy_c (m_Sky_trick 45 r2 r13 S12) fun r16 S15 => some (0, S15)) else (sy_c (m_Sky_handTo 45 r2 S8) fun r19 S18 => some (0, S18))) else (some (0, S4))
theorem cv_Top_passByDraw : sy_cV RX11 yX11_passByDraw cX11_passByDraw 2 none 0 := ⟨wm_647, wm_648, wm_2, wm_649, by decide +kernel⟩
set_option maxRecDepth 100000 in
set_option maxHeartbeats 40000000 in
theorem c_Top_passByDraw (l : Launch) {E : sy_ET} (ht : sy_OTop E) {S S' : sy_St} {r : Int32} (h : m_Top_passByDraw S = some (r, S')) : sy_MV l yX11_passByDraw cX11_passByDraw 2 3 65 [.ref (sy_ad E 0)] E S S' := by
  refine sy_MV_of RX11 pn_11 rfl (Nat.le_of_ble_eq_true rfl) (fun p e s m args below meth c A ls fx hr hlk hA X hl => ?_)
  have hx := fx.1
  have hb := fx.2.1
  have hown := fx.2.2.2.1
  have hts := fx.2.2.2.2
  have hl : lv_has ls 2 [(0, .ref (sy_ad E 0))] := hl
  unfold m_Top_passByDraw at h
  refine lv_aload_n hx hb dX11_passByDraw_0 rfl (lv_at hl 0 rfl) ?_
  refine lv_aload_n hx hb dX11_passByDraw_1 rfl (lv_at hl 0 rfl) ?_
  refine sy_q10 fx X (sy_OTop_o ht) 0 (by decide) wm_18 (fun _ h9 => h9) rfl (sy_OTop_r0 ht) dX11_passByDraw_2 ?_
  refine sy_g3 fx X (sy_OEdge_o (sy_OTop_a0 ht)) 8 (by decide) wm_221 (fun _ h9 => h9) rfl dX11_passByDraw_5 ?_
  obtain ⟨r2, S1, hc3, h⟩ := sy_c_e h
  refine sy_vi (rest := []) fx hA X hl.1 (sy_OTop_o ht) (sy_en10 (sy_OTop_o ht).2) rfl (c_Top_draw l ht hc3) cv_Top_draw wm_650 ⟨Nat.le_of_ble_eq_true rfl, Nat.le_of_ble_eq_true rfl, Nat.le_refl _, Nat.le_refl _⟩ rfl rfl (Nat.le_of_ble_eq_true rfl) dX11_passByDraw_8 (fun H locs X => ?_)
  refine lv_istore_n (lv' := [(1, .int r2), (0, .ref (sy_ad E 0))]) hx hb dX11_passByDraw_11 rfl hl (by decide) rfl (fun ls hl => ?_)
  refine lv_aload_n hx hb dX11_passByDraw_12 rfl (lv_at hl 1 rfl) ?_
  refine sy_q10 fx X (sy_OTop_o ht) 2 (by decide) wm_23 (fun _ h9 => h9) rfl (sy_OTop_r2 ht) dX11_passByDraw_13 ?_
  refine lv_iload_n hx hb dX11_passByDraw_16 rfl (lv_at hl 0 rfl) ?_
  obtain ⟨r5, S4, hc6, h⟩ := sy_c_e h
  refine sy_vi (rest := []) fx hA X hl.1 (sy_OSky_o (sy_OTop_a2 ht)) (sy_en9 (sy_OSky_o (sy_OTop_a2 ht)).2) rfl (c_Sky_isHolding l (sy_OTop_a2 ht) hc6) cv_Sky_isHolding wm_551 ⟨Nat.le_of_ble_eq_true rfl, Nat.le_of_ble_eq_true rfl, Nat.le_refl _, Nat.le_refl _⟩ rfl rfl (Nat.le_of_ble_eq_true rfl) dX11_passByDraw_17 (fun H locs X => ?_)
  refine lv_if_eq (tgt := 24) hx hb dX11_passByDraw_20 (by decide) (fun c7 => ?_) (fun c7 => ?_)
  · have h := sy_t c7 h
    refine lv_aload_n hx hb dX11_passByDraw_24 rfl (lv_at hl 1 rfl) ?_
    refine sy_q10 fx X (sy_OTop_o ht) 2 (by decide) wm_23 (fun _ h9 => h9) rfl (sy_OTop_r2 ht) dX11_passByDraw_25 ?_
    refine lv_iload_n hx hb dX11_passByDraw_28 rfl (lv_at hl 0 rfl) ?_
    obtain ⟨r9, S8, hc10, h⟩ := sy_c_e h
    refine sy_vi (rest := []) fx hA X hl.1 (sy_OSky_o (sy_OTop_a2 ht)) (sy_en9 (sy_OSky_o (sy_OTop_a2 ht)).2) rfl (c_Sky_isFatherHolding l (sy_OTop_a2 ht) hc10) cv_Sky_isFatherHolding wm_588 ⟨Nat.le_of_ble_eq_true rfl, Nat.le_of_ble_eq_true rfl, Nat.le_refl _, Nat.le_refl _⟩ rfl rfl (Nat.le_of_ble_eq_true rfl) dX11_passByDraw_29 (fun H locs X => ?_)
    refine lv_if_eq (tgt := 46) hx hb dX11_passByDraw_32 (by decide) (fun c11 => ?_) (fun c11 => ?_)
    · have h := sy_t c11 h
      refine lv_aload_n hx hb dX11_passByDraw_46 rfl (lv_at hl 1 rfl) ?_
      refine sy_q10 fx X (sy_OTop_o ht) 2 (by decide) wm_23 (fun _ h9 => h9) rfl (sy_OTop_r2 ht) dX11_passByDraw_47 ?_
      refine lv_iload_n hx hb dX11_passByDraw_50 rfl (lv_at hl 0 rfl) ?_
      refine lv_aload_n hx hb dX11_passByDraw_51 rfl (lv_at hl 1 rfl) ?_
      refine lv_iconst (v := 3) hx hb dX11_passByDraw_52 (by decide) ?_
      obtain ⟨r13, S12, hc14, h⟩ := sy_c_e h
      refine sy_vi (rest := [.int r2, .ref (sy_ad E 45)]) fx hA X hl.1 (sy_OTop_o ht) (sy_en10 (sy_OTop_o ht).2) rfl (c_Top_draw l ht hc14) cv_Top_draw wm_650 ⟨Nat.le_of_ble_eq_true rfl, Nat.le_of_ble_eq_true rfl, Nat.le_refl _, Nat.le_refl _⟩ rfl rfl (Nat.le_of_ble_eq_true rfl) dX11_passByDraw_53 (fun H locs X => ?_)
      obtain ⟨r16, S15, hc17, h⟩ := sy_c_e h
      refine sy_vi (rest := []) fx hA X hl.1 (sy_OSky_o (sy_OTop_a2 ht)) (sy_en9 (sy_OSky_o (sy_OTop_a2 ht)).2) rfl (c_Sky_trick l (sy_OTop_a2 ht) hc17) cv_Sky_trick wm_552 ⟨Nat.le_of_ble_eq_true rfl, Nat.le_of_ble_eq_true rfl, Nat.le_refl _, Nat.le_refl _⟩ rfl rfl (Nat.le_of_ble_eq_true rfl) dX11_passByDraw_56 (fun H locs X => ?_)
      refine lv_pop hx hb dX11_passByDraw_59 rfl ?_
      exact sy_vret fx X hr hlk h dX11_passByDraw_60
    · have h := sy_f c11 h
      refine lv_aload_n hx hb dX11_passByDraw_35 rfl (lv_at hl 1 rfl) ?_
      refine sy_q10 fx X (sy_OTop_o ht) 2 (by decide) wm_23 (fun _ h9 => h9) rfl (sy_OTop_r2 ht) dX11_passByDraw_36 ?_
      refine lv_iload_n hx hb dX11_passByDraw_39 rfl (lv_at hl 0 rfl) ?_
      obtain ⟨r19, S18, hc20, h⟩ := sy_c_e h
      refine sy_vv (rest := []) fx hA X hl.1 (sy_OSky_o (sy_OTop_a2 ht)) (sy_en9 (sy_OSky_o (sy_OTop_a2 ht)).2) rfl (c_Sky_handTo l (sy_OTop_a2 ht) hc20) cv_Sky_handTo wm_597 ⟨Nat.le_of_ble_eq_true rfl, Nat.le_of_ble_eq_true rfl, Nat.le_refl _, Nat.le_refl _⟩ rfl rfl (Nat.le_of_ble_eq_true rfl) dX11_passByDraw_40 (fun H locs X => ?_)
      refine lv_goto (tgt := 60) hx hb dX11_passByDraw_43 (by decide) ?_
      exact sy_vret fx X hr hlk h dX11_passByDraw_60
  · have h := sy_f c7 h
    exact sy_vret fx X hr hlk h dX11_passByDraw_23
def m_Top_letHourPass (S : sy_St) : sy_R := sy_c (m_Past_add 45 S) fun r2 S1 => sy_c (m_Sky_passHour 45 0 S1) fun r5 S4 => some (0, S4)
theorem cv_Top_letHourPass : sy_cV RX11 yX11_letHourPass cX11_letHourPass 1 none 0 := ⟨wm_484, wm_485, wm_2, wm_486, by decide +kernel⟩
set_option maxRecDepth 100000 in
set_option maxHeartbeats 40000000 in
theorem c_Top_letHourPass (l : Launch) {E : sy_ET} (ht : sy_OTop E) {S S' : sy_St} {r : Int32} (h : m_Top_letHourPass S = some (r, S')) : sy_MV l yX11_letHourPass cX11_letHourPass 1 4 102 [.ref (sy_ad E 0)] E S S' := by
  refine sy_MV_of RX11 pn_11 rfl (Nat.le_of_ble_eq_true rfl) (fun p e s m args below meth c A ls fx hr hlk hA X hl => ?_)
  have hx := fx.1
  have hb := fx.2.1
  have hown := fx.2.2.2.1
  have hts := fx.2.2.2.2
  have hl : lv_has ls 1 [(0, .ref (sy_ad E 0))] := hl
  unfold m_Top_letHourPass at h
  refine lv_aload_n hx hb dX11_letHourPass_0 rfl (lv_at hl 0 rfl) ?_
  refine sy_q10 fx X (sy_OTop_o ht) 4 (by decide) wm_28 (fun _ h9 => h9) rfl (sy_OTop_r4 ht) dX11_letHourPass_1 ?_
  refine lv_aload_n hx hb dX11_letHourPass_4 rfl (lv_at hl 0 rfl) ?_
  refine sy_q10 fx X (sy_OTop_o ht) 2 (by decide) wm_23 (fun _ h9 => h9) rfl (sy_OTop_r2 ht) dX11_letHourPass_5 ?_
  obtain ⟨r2, S1, hc3, h⟩ := sy_c_e h
  refine sy_vv (rest := []) fx hA X hl.1 (sy_OPast_o (sy_OTop_a4 ht)) (sy_en5 (sy_OPast_o (sy_OTop_a4 ht)).2) rfl (c_Past_add l (sy_OTop_a4 ht) (sy_OTop_a2 ht) hc3) cv_Past_add wm_487 ⟨Nat.le_of_ble_eq_true rfl, Nat.le_of_ble_eq_true rfl, Nat.le_refl _, Nat.le_refl _⟩ rfl rfl (Nat.le_of_ble_eq_true rfl) dX11_letHourPass_8 (fun H locs X => ?_)
  refine lv_aload_n hx hb dX11_letHourPass_11 rfl (lv_at hl 0 rfl) ?_
  refine sy_q10 fx X (sy_OTop_o ht) 2 (by decide) wm_23 (fun _ h9 => h9) rfl (sy_OTop_r2 ht) dX11_letHourPass_12 ?_
  refine lv_iconst (v := 0) hx hb dX11_letHourPass_15 (by decide) ?_
  obtain ⟨r5, S4, hc6, h⟩ := sy_c_e h
  refine sy_vv (rest := []) fx hA X hl.1 (sy_OSky_o (sy_OTop_a2 ht)) (sy_en9 (sy_OSky_o (sy_OTop_a2 ht)).2) rfl (c_Sky_passHour l (sy_OTop_a2 ht) hc6) cv_Sky_passHour wm_499 ⟨Nat.le_of_ble_eq_true rfl, Nat.le_of_ble_eq_true rfl, Nat.le_refl _, Nat.le_refl _⟩ rfl rfl (Nat.le_of_ble_eq_true rfl) dX11_letHourPass_16 (fun H locs X => ?_)
  exact sy_vret fx X hr hlk h dX11_letHourPass_19
def m_Top_drift_B37 (kk37 : Int32 → Int32 → Int32 → sy_St → sy_R) (y1 : Int32) (y2 : Int32) (y3 : Int32) (S : sy_St) : sy_R := if y1 ≤ y3 then (some ((S 45 7) - y2, S)) else (sy_c (m_Top_passByDraw S) fun r10 S9 => sy_c (m_Top_letHourPass S9) fun r13 S12 => sy_b (y3 + 1 : Int32) fun x15 => kk37 y1 y2 x15 S12)
def m_Top_drift (p0 : Int32) (S : sy_St) : sy_R := if p0 < 1 then (some ((-1000000002), S)) else (if p0 ≤ 99 then (sy_c (m_Edge_isWhole 1 S) fun r4 S3 => if r4 = 0 then (some ((-1000000003), S3)) else (sy_b (S3 45 7 : Int32) fun x7 => sy_fix (fun _ _ _ _ => none) (m_Top_drift_B37) sy_F p0 x7 0 S3)) else (some ((-1000000002), S)))
theorem cv_Top_drift : sy_cV RX11 yX11_drift cX11_drift 4 (some .int) 1 := ⟨wm_643, wm_644, wm_2, wm_645, by decide +kernel⟩
set_option maxRecDepth 100000 in
set_option maxHeartbeats 40000000 in
theorem c_Top_drift (l : Launch) {E : sy_ET} (ht : sy_OTop E) {p0 : Int32} {S S' : sy_St} {r : Int32} (h : m_Top_drift p0 S = some (r, S')) : sy_MI l yX11_drift cX11_drift 4 (some .int) 5 122 [.ref (sy_ad E 0), .int p0] E S r S' := by
  refine sy_MI_of RX11 pn_11 rfl (Nat.le_of_ble_eq_true rfl) (fun p e s m args below meth c A ls fx hr hlk hA X hl => ?_)
  have hx := fx.1
  have hb := fx.2.1
  have hown := fx.2.2.2.1
  have hts := fx.2.2.2.2
  have hl : lv_has ls 4 [(0, .ref (sy_ad E 0)), (1, .int p0)] := hl
  have L_37 : ∀ (n37 : Nat) (y1 y2 y3 : Int32) (S : sy_St) (H : Heap) (locs : List Loc) (ls : Array Slot), sy_Wd E A s S H locs → lv_has ls 4 [(0, .ref (sy_ad E 0)), (1, .int y1), (2, .int y2), (3, .int y3)] → sy_fix (fun _ _ _ _ => none) (m_Top_drift_B37) n37 y1 y2 y3 S = some (r, S') → W p l e (sy_rm 5 122) s m args below meth c H locs 0 0 (MQ below (sy_Qi E A r S') args s 0 0 A) (F0 m 37 ls []) := by
    intro n37
    induction n37 with
    | zero => intro y1 y2 y3 S H locs ls X hl h; have h9 : (none : sy_R) = some (r, S') := h; cases h9
    | succ n37 ih37 =>
      intro y1 y2 y3 S H locs ls X hl h
      have h : m_Top_drift_B37 (sy_fix (fun _ _ _ _ => none) (m_Top_drift_B37) n37) y1 y2 y3 S = some (r, S') := h
      unfold m_Top_drift_B37 at h
      refine lv_iload_n hx hb dX11_drift_37 rfl (lv_at hl 3 rfl) ?_
      refine lv_iload_n hx hb dX11_drift_38 rfl (lv_at hl 1 rfl) ?_
      refine lv_icmp_ge (tgt := 56) hx hb dX11_drift_39 (by decide) (fun c8 => ?_) (fun c8 => ?_)
      · have h := sy_t c8 h
        refine lv_aload_n hx hb dX11_drift_56 rfl (lv_at hl 0 rfl) ?_
        refine sy_q10 fx X (sy_OTop_o ht) 2 (by decide) wm_23 (fun _ h9 => h9) rfl (sy_OTop_r2 ht) dX11_drift_57 ?_
        refine sy_g9 fx X (sy_OSky_o (sy_OTop_a2 ht)) 7 (by decide) wm_391 (fun _ h9 => h9) rfl dX11_drift_60 ?_
        refine lv_iload_n hx hb dX11_drift_63 rfl (lv_at hl 2 rfl) ?_
        refine lv_isub hx hb dX11_drift_64 ?_
        exact sy_iret fx X hr hlk h dX11_drift_65
      · have h := sy_f c8 h
        refine lv_aload_n hx hb dX11_drift_42 rfl (lv_at hl 0 rfl) ?_
        obtain ⟨r10, S9, hc11, h⟩ := sy_c_e h
        refine sy_vv (rest := []) fx hA X hl.1 (sy_OTop_o ht) (sy_en10 (sy_OTop_o ht).2) rfl (c_Top_passByDraw l ht hc11) cv_Top_passByDraw wm_646 ⟨Nat.le_of_ble_eq_true rfl, Nat.le_of_ble_eq_true rfl, Nat.le_refl _, Nat.le_refl _⟩ rfl rfl (Nat.le_of_ble_eq_true rfl) dX11_drift_43 (fun H locs X => ?_)
        refine lv_aload_n hx hb dX11_drift_46 rfl (lv_at hl 0 rfl) ?_
        obtain ⟨r13, S12, hc14, h⟩ := sy_c_e h
        refine sy_vv (rest := []) fx hA X hl.1 (sy_OTop_o ht) (sy_en10 (sy_OTop_o ht).2) rfl (c_Top_letHourPass l ht hc14) cv_Top_letHourPass wm_483 ⟨Nat.le_of_ble_eq_true rfl, Nat.le_of_ble_eq_true rfl, Nat.le_refl _, Nat.le_refl _⟩ rfl rfl (Nat.le_of_ble_eq_true rfl) dX11_drift_47 (fun H locs X => ?_)
        obtain ⟨x15, hx15, h⟩ := sy_b_e h
        refine lv_iinc (v := x15) (lv' := [(3, .int x15), (0, .ref (sy_ad E 0)), (1, .int y1), (2, .int y2)]) hx hb dX11_drift_50 hl (k := 3) rfl (by rw [hx15]; rfl) (by decide) rfl (fun ls hl => ?_)
        refine lv_goto (tgt := 37) hx hb dX11_drift_53 (by decide) ?_
        exact ih37 y1 y2 x15 S12 _ _ _ X (lv_sub hl [1, 2, 3, 0] rfl) h
  unfold m_Top_drift at h
  refine lv_iload_n hx hb dX11_drift_0 rfl (lv_at hl 1 rfl) ?_
  refine lv_iconst (v := 1) hx hb dX11_drift_1 (by decide) ?_
  refine lv_icmp_lt (tgt := 11) hx hb dX11_drift_2 (by decide) (fun c1 => ?_) (fun c1 => ?_)
  · have h := sy_t c1 h
    refine lv_ldc (v := (-1000000002)) hx hb hown (hts _ wm_196) dX11_drift_11 ?_
    exact sy_iret fx X hr hlk h dX11_drift_13
  · have h := sy_f c1 h
    refine lv_iload_n hx hb dX11_drift_5 rfl (lv_at hl 1 rfl) ?_
    refine lv_bipush (v := 99) hx hb dX11_drift_6 (by decide) ?_
    refine lv_icmp_le (tgt := 14) hx hb dX11_drift_8 (by decide) (fun c2 => ?_) (fun c2 => ?_)
    · have h := sy_t c2 h
      refine lv_aload_n hx hb dX11_drift_14 rfl (lv_at hl 0 rfl) ?_
      refine sy_q10 fx X (sy_OTop_o ht) 0 (by decide) wm_18 (fun _ h9 => h9) rfl (sy_OTop_r0 ht) dX11_drift_15 ?_
      obtain ⟨r4, S3, hc5, h⟩ := sy_c_e h
      refine sy_vi (rest := []) fx hA X hl.1 (sy_OEdge_o (sy_OTop_a0 ht)) (sy_en3 (sy_OEdge_o (sy_OTop_a0 ht)).2) rfl (c_Edge_isWhole l (sy_OTop_a0 ht) hc5) cv_Edge_isWhole wm_479 ⟨Nat.le_of_ble_eq_true rfl, Nat.le_of_ble_eq_true rfl, Nat.le_refl _, Nat.le_refl _⟩ rfl rfl (Nat.le_of_ble_eq_true rfl) dX11_drift_18 (fun H locs X => ?_)
      refine lv_if_ne (tgt := 27) hx hb dX11_drift_21 (by decide) (fun c6 => ?_) (fun c6 => ?_)
      · have h := sy_f c6 h
        refine lv_aload_n hx hb dX11_drift_27 rfl (lv_at hl 0 rfl) ?_
        refine sy_q10 fx X (sy_OTop_o ht) 2 (by decide) wm_23 (fun _ h9 => h9) rfl (sy_OTop_r2 ht) dX11_drift_28 ?_
        refine sy_g9 fx X (sy_OSky_o (sy_OTop_a2 ht)) 7 (by decide) wm_391 (fun _ h9 => h9) rfl dX11_drift_31 ?_
        obtain ⟨x7, hx7, h⟩ := sy_b_e h
        refine sy_top hx7 ?_
        refine lv_istore_n (lv' := [(2, .int x7), (0, .ref (sy_ad E 0)), (1, .int p0)]) hx hb dX11_drift_34 rfl hl (by decide) rfl (fun ls hl => ?_)
        refine lv_iconst (v := 0) hx hb dX11_drift_35 (by decide) ?_
        refine lv_istore_n (lv' := [(3, .int 0), (2, .int x7), (0, .ref (sy_ad E 0)), (1, .int p0)]) hx hb dX11_drift_36 rfl hl (by decide) rfl (fun ls hl => ?_)
        exact L_37 sy_F p0 x7 0 S3 _ _ _ X (lv_sub hl [2, 3, 1, 0] rfl) h
      · have h := sy_t c6 h
        refine lv_ldc (v := (-1000000003)) hx hb hown (hts _ wm_478) dX11_drift_24 ?_
        exact sy_iret fx X hr hlk h dX11_drift_26
    · have h := sy_f c2 h
      refine lv_ldc (v := (-1000000002)) hx hb hown (hts _ wm_196) dX11_drift_11 ?_
      exact sy_iret fx X hr hlk h dX11_drift_13
def m_Top_edge_B83 (kk83 : Int32 → sy_St → sy_R) (y1 : Int32) (S : sy_St) : sy_R := if 2 ≤ y1 then (some (S 1 8, S)) else (sy_g (sy_in y1 2) <| sy_b (sy_up S 368 y1.toNatClampNeg (vp_nar .boolean 0)) fun S23 => sy_b (y1 + 1 : Int32) fun x24 => kk83 x24 S23)
def m_Top_edge (S : sy_St) : sy_R := sy_c (m_Reader_readText S) fun r2 S1 => sy_b (sy_up S1 0 14 (S1 35 4)) fun S4 => if (S4 35 3) = 0 then (sy_c (m_Edge_copyFrom 1 37 S4) fun r7 S6 => sy_c (m_Sky_begin 45 S6) fun r10 S9 => sy_c (m_Past_forget S9) fun r13 S12 => sy_c (m_Seen_clear S12) fun r16 S15 => sy_c (m_Book_clear S15) fun r19 S18 => sy_fix (fun _ _ => none) (m_Top_edge_B83) sy_F 0 S18) else (some ((-10) - (S4 35 3), S4))
theorem cv_Top_edge : sy_cV RX11 yX11_edge cX11_edge 2 (some .int) 0 := ⟨wm_215, wm_216, wm_2, wm_217, by decide +kernel⟩
set_option maxRecDepth 100000 in
set_option maxHeartbeats 40000000 in
theorem c_Top_edge (l : Launch) {E : sy_ET} (ht : sy_OTop E) {S S' : sy_St} {r : Int32} (h : m_Top_edge S = some (r, S')) : sy_MI l yX11_edge cX11_edge 2 (some .int) 6 134 [.ref (sy_ad E 0)] E S r S' := by
  refine sy_MI_of RX11 pn_11 rfl (Nat.le_of_ble_eq_true rfl) (fun p e s m args below meth c A ls fx hr hlk hA X hl => ?_)
  have hx := fx.1
  have hb := fx.2.1
  have hown := fx.2.2.2.1
  have hts := fx.2.2.2.2
  have hl : lv_has ls 2 [(0, .ref (sy_ad E 0))] := hl
  have L_83 : ∀ (n83 : Nat) (y1 : Int32) (S : sy_St) (H : Heap) (locs : List Loc) (ls : Array Slot), sy_Wd E A s S H locs → lv_has ls 2 [(0, .ref (sy_ad E 0)), (1, .int y1)] → sy_fix (fun _ _ => none) (m_Top_edge_B83) n83 y1 S = some (r, S') → W p l e (sy_rm 6 134) s m args below meth c H locs 0 0 (MQ below (sy_Qi E A r S') args s 0 0 A) (F0 m 83 ls []) := by
    intro n83
    induction n83 with
    | zero => intro y1 S H locs ls X hl h; have h9 : (none : sy_R) = some (r, S') := h; cases h9
    | succ n83 ih83 =>
      intro y1 S H locs ls X hl h
      have h : m_Top_edge_B83 (sy_fix (fun _ _ => none) (m_Top_edge_B83) n83) y1 S = some (r, S') := h
      unfold m_Top_edge_B83 at h
      refine lv_iload_n hx hb dX11_edge_83 rfl (lv_at hl 1 rfl) ?_
      refine lv_iconst (v := 2) hx hb dX11_edge_84 (by decide) ?_
      refine lv_icmp_ge (tgt := 101) hx hb dX11_edge_85 (by decide) (fun c21 => ?_) (fun c21 => ?_)
      · have h := sy_t c21 h
        refine lv_aload_n hx hb dX11_edge_101 rfl (lv_at hl 0 rfl) ?_
        refine sy_q10 fx X (sy_OTop_o ht) 0 (by decide) wm_18 (fun _ h9 => h9) rfl (sy_OTop_r0 ht) dX11_edge_102 ?_
        refine sy_g3 fx X (sy_OEdge_o (sy_OTop_a0 ht)) 8 (by decide) wm_221 (fun _ h9 => h9) rfl dX11_edge_105 ?_
        exact sy_iret fx X hr hlk h dX11_edge_108
      · have h := sy_f c21 h
        refine lv_aload_n hx hb dX11_edge_88 rfl (lv_at hl 0 rfl) ?_
        refine sy_q10 fx X (sy_OTop_o ht) 6 (by decide) wm_31 (fun _ h9 => h9) rfl (sy_OTop_r6 ht) dX11_edge_89 ?_
        refine lv_iload_n hx hb dX11_edge_92 rfl (lv_at hl 1 rfl) ?_
        refine lv_iconst (v := 0) hx hb dX11_edge_93 (by decide) ?_
        obtain ⟨g22, h⟩ := sy_g_e h
        obtain ⟨S23, hS23, h⟩ := sy_b_e h
        refine sy_zast fx X (sy_OTop_a6 ht) g22 hS23 dX11_edge_94 (fun H locs X => ?_)
        obtain ⟨x24, hx24, h⟩ := sy_b_e h
        refine lv_iinc (v := x24) (lv' := [(1, .int x24), (0, .ref (sy_ad E 0))]) hx hb dX11_edge_95 hl (k := 1) rfl (by rw [hx24]; rfl) (by decide) rfl (fun ls hl => ?_)
        refine lv_goto (tgt := 83) hx hb dX11_edge_98 (by decide) ?_
        exact ih83 x24 S23 _ _ _ X (lv_sub hl [1, 0] rfl) h
  unfold m_Top_edge at h
  refine lv_aload_n hx hb dX11_edge_0 rfl (lv_at hl 0 rfl) ?_
  refine sy_q10 fx X (sy_OTop_o ht) 1 (by decide) wm_22 (fun _ h9 => h9) rfl (sy_OTop_r1 ht) dX11_edge_1 ?_
  obtain ⟨r2, S1, hc3, h⟩ := sy_c_e h
  refine sy_vv (rest := []) fx hA X hl.1 (sy_OReader_o (sy_OTop_a1 ht)) (sy_en6 (sy_OReader_o (sy_OTop_a1 ht)).2) rfl (c_Reader_readText l (sy_OTop_a1 ht) hc3) cv_Reader_readText wm_222 ⟨Nat.le_of_ble_eq_true rfl, Nat.le_of_ble_eq_true rfl, Nat.le_refl _, Nat.le_refl _⟩ rfl rfl (Nat.le_of_ble_eq_true rfl) dX11_edge_4 (fun H locs X => ?_)
  refine lv_aload_n hx hb dX11_edge_7 rfl (lv_at hl 0 rfl) ?_
  refine lv_aload_n hx hb dX11_edge_8 rfl (lv_at hl 0 rfl) ?_
  refine sy_q10 fx X (sy_OTop_o ht) 1 (by decide) wm_22 (fun _ h9 => h9) rfl (sy_OTop_r1 ht) dX11_edge_9 ?_
  refine sy_g6 fx X (sy_OReader_o (sy_OTop_a1 ht)) 4 (by decide) wm_218 (fun _ h9 => h9) rfl dX11_edge_12 ?_
  obtain ⟨S4, hS4, h⟩ := sy_b_e h
  refine sy_p10 fx X (sy_OTop_o ht) 14 (by decide) wm_58 (fun _ h9 => h9) rfl (ty := .int) (by decide +kernel) rfl rfl hS4 sy_s10_14 dX11_edge_15 (fun H locs X => ?_)
  refine lv_aload_n hx hb dX11_edge_18 rfl (lv_at hl 0 rfl) ?_
  refine sy_q10 fx X (sy_OTop_o ht) 1 (by decide) wm_22 (fun _ h9 => h9) rfl (sy_OTop_r1 ht) dX11_edge_19 ?_
  refine sy_g6 fx X (sy_OReader_o (sy_OTop_a1 ht)) 3 (by decide) wm_219 (fun _ h9 => h9) rfl dX11_edge_22 ?_
  refine lv_if_eq (tgt := 39) hx hb dX11_edge_25 (by decide) (fun c5 => ?_) (fun c5 => ?_)
  · have h := sy_t c5 h
    refine lv_aload_n hx hb dX11_edge_39 rfl (lv_at hl 0 rfl) ?_
    refine sy_q10 fx X (sy_OTop_o ht) 0 (by decide) wm_18 (fun _ h9 => h9) rfl (sy_OTop_r0 ht) dX11_edge_40 ?_
    refine lv_aload_n hx hb dX11_edge_43 rfl (lv_at hl 0 rfl) ?_
    refine sy_q10 fx X (sy_OTop_o ht) 1 (by decide) wm_22 (fun _ h9 => h9) rfl (sy_OTop_r1 ht) dX11_edge_44 ?_
    refine sy_q6 fx X (sy_OReader_o (sy_OTop_a1 ht)) 1 (by decide) wm_220 (fun _ h9 => h9) rfl (sy_OReader_r1 (sy_OTop_a1 ht)) dX11_edge_47 ?_
    obtain ⟨r7, S6, hc8, h⟩ := sy_c_e h
    refine sy_vv (rest := []) fx hA X hl.1 (sy_OEdge_o (sy_OTop_a0 ht)) (sy_en3 (sy_OEdge_o (sy_OTop_a0 ht)).2) rfl (c_Edge_copyFrom l (sy_OTop_a0 ht) (sy_OReader_a1 (sy_OTop_a1 ht)) hc8) cv_Edge_copyFrom wm_299 ⟨Nat.le_of_ble_eq_true rfl, Nat.le_of_ble_eq_true rfl, Nat.le_refl _, Nat.le_refl _⟩ rfl rfl (Nat.le_of_ble_eq_true rfl) dX11_edge_50 (fun H locs X => ?_)
    refine lv_aload_n hx hb dX11_edge_53 rfl (lv_at hl 0 rfl) ?_
    refine sy_q10 fx X (sy_OTop_o ht) 2 (by decide) wm_23 (fun _ h9 => h9) rfl (sy_OTop_r2 ht) dX11_edge_54 ?_
    obtain ⟨r10, S9, hc11, h⟩ := sy_c_e h
    refine sy_vv (rest := []) fx hA X hl.1 (sy_OSky_o (sy_OTop_a2 ht)) (sy_en9 (sy_OSky_o (sy_OTop_a2 ht)).2) rfl (c_Sky_begin l (sy_OTop_a2 ht) hc11) cv_Sky_begin wm_307 ⟨Nat.le_of_ble_eq_true rfl, Nat.le_of_ble_eq_true rfl, Nat.le_refl _, Nat.le_refl _⟩ rfl rfl (Nat.le_of_ble_eq_true rfl) dX11_edge_57 (fun H locs X => ?_)
    refine lv_aload_n hx hb dX11_edge_60 rfl (lv_at hl 0 rfl) ?_
    refine sy_q10 fx X (sy_OTop_o ht) 4 (by decide) wm_28 (fun _ h9 => h9) rfl (sy_OTop_r4 ht) dX11_edge_61 ?_
    obtain ⟨r13, S12, hc14, h⟩ := sy_c_e h
    refine sy_vv (rest := []) fx hA X hl.1 (sy_OPast_o (sy_OTop_a4 ht)) (sy_en5 (sy_OPast_o (sy_OTop_a4 ht)).2) rfl (c_Past_forget l (sy_OTop_a4 ht) hc14) cv_Past_forget wm_308 ⟨Nat.le_of_ble_eq_true rfl, Nat.le_of_ble_eq_true rfl, Nat.le_refl _, Nat.le_refl _⟩ rfl rfl (Nat.le_of_ble_eq_true rfl) dX11_edge_64 (fun H locs X => ?_)
    refine lv_aload_n hx hb dX11_edge_67 rfl (lv_at hl 0 rfl) ?_
    refine sy_q10 fx X (sy_OTop_o ht) 9 (by decide) wm_41 (fun _ h9 => h9) rfl (sy_OTop_r9 ht) dX11_edge_68 ?_
    obtain ⟨r16, S15, hc17, h⟩ := sy_c_e h
    refine sy_vv (rest := []) fx hA X hl.1 (sy_OSeen_o (sy_OTop_a9 ht)) (sy_en7 (sy_OSeen_o (sy_OTop_a9 ht)).2) rfl (c_Seen_clear l (sy_OTop_a9 ht) hc17) cv_Seen_clear wm_314 ⟨Nat.le_of_ble_eq_true rfl, Nat.le_of_ble_eq_true rfl, Nat.le_refl _, Nat.le_refl _⟩ rfl rfl (Nat.le_of_ble_eq_true rfl) dX11_edge_71 (fun H locs X => ?_)
    refine lv_aload_n hx hb dX11_edge_74 rfl (lv_at hl 0 rfl) ?_
    refine sy_q10 fx X (sy_OTop_o ht) 11 (by decide) wm_49 (fun _ h9 => h9) rfl (sy_OTop_r11 ht) dX11_edge_75 ?_
    obtain ⟨r19, S18, hc20, h⟩ := sy_c_e h
    refine sy_vv (rest := []) fx hA X hl.1 (sy_OBook_o (sy_OTop_a11 ht)) (sy_en0 (sy_OBook_o (sy_OTop_a11 ht)).2) rfl (c_Book_clear l (sy_OTop_a11 ht) hc20) cv_Book_clear wm_319 ⟨Nat.le_of_ble_eq_true rfl, Nat.le_of_ble_eq_true rfl, Nat.le_refl _, Nat.le_refl _⟩ rfl rfl (Nat.le_of_ble_eq_true rfl) dX11_edge_78 (fun H locs X => ?_)
    refine lv_iconst (v := 0) hx hb dX11_edge_81 (by decide) ?_
    refine lv_istore_n (lv' := [(1, .int 0), (0, .ref (sy_ad E 0))]) hx hb dX11_edge_82 rfl hl (by decide) rfl (fun ls hl => ?_)
    exact L_83 sy_F 0 S18 _ _ _ X (lv_sub hl [1, 0] rfl) h
  · have h := sy_f c5 h
    refine lv_bipush (v := (-10)) hx hb dX11_edge_28 (by decide) ?_
    refine lv_aload_n hx hb dX11_edge_30 rfl (lv_at hl 0 rfl) ?_
    refine sy_q10 fx X (sy_OTop_o ht) 1 (by decide) wm_22 (fun _ h9 => h9) rfl (sy_OTop_r1 ht) dX11_edge_31 ?_
    refine sy_g6 fx X (sy_OReader_o (sy_OTop_a1 ht)) 3 (by decide) wm_219 (fun _ h9 => h9) rfl dX11_edge_34 ?_
    refine lv_isub hx hb dX11_edge_37 ?_
    exact sy_iret fx X hr hlk h dX11_edge_38
def m_Top_fault (S : sy_St) : sy_R := some (S 0 14, S)
theorem cv_Top_fault : sy_cV RX11 yX11_fault cX11_fault 1 (some .int) 0 := ⟨wm_377, wm_378, wm_2, wm_379, by decide +kernel⟩
set_option maxRecDepth 100000 in
set_option maxHeartbeats 40000000 in
theorem c_Top_fault (l : Launch) {E : sy_ET} (ht : sy_OTop E) {S S' : sy_St} {r : Int32} (h : m_Top_fault S = some (r, S')) : sy_MI l yX11_fault cX11_fault 1 (some .int) 0 0 [.ref (sy_ad E 0)] E S r S' := by
  refine sy_MI_of RX11 pn_11 rfl (Nat.le_of_ble_eq_true rfl) (fun p e s m args below meth c A ls fx hr hlk hA X hl => ?_)
  have hx := fx.1
  have hb := fx.2.1
  have hown := fx.2.2.2.1
  have hts := fx.2.2.2.2
  have hl : lv_has ls 1 [(0, .ref (sy_ad E 0))] := hl
  unfold m_Top_fault at h
  refine lv_aload_n hx hb dX11_fault_0 rfl (lv_at hl 0 rfl) ?_
  refine sy_g10 fx X (sy_OTop_o ht) 14 (by decide) wm_58 (fun _ h9 => h9) rfl dX11_fault_1 ?_
  exact sy_iret fx X hr hlk h dX11_fault_4
def m_Top_feed (p0 : Int32) (S : sy_St) : sy_R := if p0 < 0 then (some ((-1000000002), S)) else (if p0 ≤ 255 then (if (S 35 2) < 250 then (sy_c (m_Reader_add p0 S) fun r5 S4 => some (r5, S4)) else (some ((-1000000004), S))) else (some ((-1000000002), S)))
theorem cv_Top_feed : sy_cV RX11 yX11_feed cX11_feed 2 (some .int) 1 := ⟨wm_193, wm_194, wm_2, wm_195, by decide +kernel⟩
set_option maxRecDepth 100000 in
set_option maxHeartbeats 40000000 in
theorem c_Top_feed (l : Launch) {E : sy_ET} (ht : sy_OTop E) {p0 : Int32} {S S' : sy_St} {r : Int32} (h : m_Top_feed p0 S = some (r, S')) : sy_MI l yX11_feed cX11_feed 2 (some .int) 1 21 [.ref (sy_ad E 0), .int p0] E S r S' := by
  refine sy_MI_of RX11 pn_11 rfl (Nat.le_of_ble_eq_true rfl) (fun p e s m args below meth c A ls fx hr hlk hA X hl => ?_)
  have hx := fx.1
  have hb := fx.2.1
  have hown := fx.2.2.2.1
  have hts := fx.2.2.2.2
  have hl : lv_has ls 2 [(0, .ref (sy_ad E 0)), (1, .int p0)] := hl
  unfold m_Top_feed at h
  refine lv_iload_n hx hb dX11_feed_0 rfl (lv_at hl 1 rfl) ?_
  refine lv_if_lt (tgt := 11) hx hb dX11_feed_1 (by decide) (fun c1 => ?_) (fun c1 => ?_)
  · have h := sy_t c1 h
    refine lv_ldc (v := (-1000000002)) hx hb hown (hts _ wm_196) dX11_feed_11 ?_
    exact sy_iret fx X hr hlk h dX11_feed_13
  · have h := sy_f c1 h
    refine lv_iload_n hx hb dX11_feed_4 rfl (lv_at hl 1 rfl) ?_
    refine lv_sipush (v := 255) hx hb dX11_feed_5 (by decide) ?_
    refine lv_icmp_le (tgt := 14) hx hb dX11_feed_8 (by decide) (fun c2 => ?_) (fun c2 => ?_)
    · have h := sy_t c2 h
      refine lv_aload_n hx hb dX11_feed_14 rfl (lv_at hl 0 rfl) ?_
      refine sy_q10 fx X (sy_OTop_o ht) 1 (by decide) wm_22 (fun _ h9 => h9) rfl (sy_OTop_r1 ht) dX11_feed_15 ?_
      refine sy_g6 fx X (sy_OReader_o (sy_OTop_a1 ht)) 2 (by decide) wm_197 (fun _ h9 => h9) rfl dX11_feed_18 ?_
      refine lv_sipush (v := 250) hx hb dX11_feed_21 (by decide) ?_
      refine lv_icmp_lt (tgt := 30) hx hb dX11_feed_24 (by decide) (fun c3 => ?_) (fun c3 => ?_)
      · have h := sy_t c3 h
        refine lv_aload_n hx hb dX11_feed_30 rfl (lv_at hl 0 rfl) ?_
        refine sy_q10 fx X (sy_OTop_o ht) 1 (by decide) wm_22 (fun _ h9 => h9) rfl (sy_OTop_r1 ht) dX11_feed_31 ?_
        refine lv_iload_n hx hb dX11_feed_34 rfl (lv_at hl 1 rfl) ?_
        obtain ⟨r5, S4, hc6, h⟩ := sy_c_e h
        refine sy_vi (rest := []) fx hA X hl.1 (sy_OReader_o (sy_OTop_a1 ht)) (sy_en6 (sy_OReader_o (sy_OTop_a1 ht)).2) rfl (c_Reader_add l (sy_OTop_a1 ht) hc6) cv_Reader_add wm_199 ⟨Nat.le_of_ble_eq_true rfl, Nat.le_of_ble_eq_true rfl, Nat.le_refl _, Nat.le_refl _⟩ rfl rfl (Nat.le_of_ble_eq_true rfl) dX11_feed_35 (fun H locs X => ?_)
        exact sy_iret fx X hr hlk h dX11_feed_38
      · have h := sy_f c3 h
        refine lv_ldc (v := (-1000000004)) hx hb hown (hts _ wm_198) dX11_feed_27 ?_
        exact sy_iret fx X hr hlk h dX11_feed_29
    · have h := sy_f c2 h
      refine lv_ldc (v := (-1000000002)) hx hb hown (hts _ wm_196) dX11_feed_11 ?_
      exact sy_iret fx X hr hlk h dX11_feed_13
def m_Top_fruit (p0 : Int32) (S : sy_St) : sy_R := if p0 < 0 then (some ((-1000000002), S)) else (if p0 ≤ 99 then (sy_b (sy_up S 45 8 (sy_min 999 ((S 45 8) + p0))) fun S3 => some (S3 45 8, S3)) else (some ((-1000000002), S)))
theorem cv_Top_fruit : sy_cV RX11 yX11_fruit cX11_fruit 2 (some .int) 1 := ⟨wm_634, wm_635, wm_2, wm_636, by decide +kernel⟩
set_option maxRecDepth 100000 in
set_option maxHeartbeats 40000000 in
theorem c_Top_fruit (l : Launch) {E : sy_ET} (ht : sy_OTop E) {p0 : Int32} {S S' : sy_St} {r : Int32} (h : m_Top_fruit p0 S = some (r, S')) : sy_MI l yX11_fruit cX11_fruit 2 (some .int) 1 30 [.ref (sy_ad E 0), .int p0] E S r S' := by
  refine sy_MI_of RX11 pn_11 rfl (Nat.le_of_ble_eq_true rfl) (fun p e s m args below meth c A ls fx hr hlk hA X hl => ?_)
  have hx := fx.1
  have hb := fx.2.1
  have hown := fx.2.2.2.1
  have hts := fx.2.2.2.2
  have hl : lv_has ls 2 [(0, .ref (sy_ad E 0)), (1, .int p0)] := hl
  unfold m_Top_fruit at h
  refine lv_iload_n hx hb dX11_fruit_0 rfl (lv_at hl 1 rfl) ?_
  refine lv_if_lt (tgt := 10) hx hb dX11_fruit_1 (by decide) (fun c1 => ?_) (fun c1 => ?_)
  · have h := sy_t c1 h
    refine lv_ldc (v := (-1000000002)) hx hb hown (hts _ wm_196) dX11_fruit_10 ?_
    exact sy_iret fx X hr hlk h dX11_fruit_12
  · have h := sy_f c1 h
    refine lv_iload_n hx hb dX11_fruit_4 rfl (lv_at hl 1 rfl) ?_
    refine lv_bipush (v := 99) hx hb dX11_fruit_5 (by decide) ?_
    refine lv_icmp_le (tgt := 13) hx hb dX11_fruit_7 (by decide) (fun c2 => ?_) (fun c2 => ?_)
    · have h := sy_t c2 h
      refine lv_aload_n hx hb dX11_fruit_13 rfl (lv_at hl 0 rfl) ?_
      refine sy_q10 fx X (sy_OTop_o ht) 2 (by decide) wm_23 (fun _ h9 => h9) rfl (sy_OTop_r2 ht) dX11_fruit_14 ?_
      refine lv_sipush (v := 999) hx hb dX11_fruit_17 (by decide) ?_
      refine lv_aload_n hx hb dX11_fruit_20 rfl (lv_at hl 0 rfl) ?_
      refine sy_q10 fx X (sy_OTop_o ht) 2 (by decide) wm_23 (fun _ h9 => h9) rfl (sy_OTop_r2 ht) dX11_fruit_21 ?_
      refine sy_g9 fx X (sy_OSky_o (sy_OTop_a2 ht)) 8 (by decide) wm_392 (fun _ h9 => h9) rfl dX11_fruit_24 ?_
      refine lv_iload_n hx hb dX11_fruit_27 rfl (lv_at hl 1 rfl) ?_
      refine lv_iadd hx hb dX11_fruit_28 ?_
      refine va_mmin (rest := [.ref (sy_ad E 45)]) hx hb (fx.2.2.1.trans hl.1.symm) hown (hts _ wm_637) (hts _ wm_492) (hts _ wm_414) (hts _ wm_493) (Nat.le_of_ble_eq_true rfl) (Nat.le_of_ble_eq_true rfl) (Nat.le_refl _) (Nat.le_refl _) dX11_fruit_29 ?_
      obtain ⟨S3, hS3, h⟩ := sy_b_e h
      refine sy_p9 fx X (sy_OSky_o (sy_OTop_a2 ht)) 8 (by decide) wm_392 (fun _ h9 => h9) rfl (ty := .int) (by decide +kernel) rfl rfl hS3 sy_s9_8 dX11_fruit_32 (fun H locs X => ?_)
      refine lv_aload_n hx hb dX11_fruit_35 rfl (lv_at hl 0 rfl) ?_
      refine sy_q10 fx X (sy_OTop_o ht) 2 (by decide) wm_23 (fun _ h9 => h9) rfl (sy_OTop_r2 ht) dX11_fruit_36 ?_
      refine sy_g9 fx X (sy_OSky_o (sy_OTop_a2 ht)) 8 (by decide) wm_392 (fun _ h9 => h9) rfl dX11_fruit_39 ?_
      exact sy_iret fx X hr hlk h dX11_fruit_42
    · have h := sy_f c2 h
      refine lv_ldc (v := (-1000000002)) hx hb hown (hts _ wm_196) dX11_fruit_10 ?_
      exact sy_iret fx X hr hlk h dX11_fruit_12
def m_Top_isImage (p0 : Int32) (S : sy_St) : sy_R := if p0 < 0 then (some (0, S)) else (if 2 ≤ p0 then (some (0, S)) else (some (1, S)))
theorem cv_Top_isImage : sy_cS RX11 yX11_isImage cX11_isImage 1 (some .boolean) 1 := ⟨wm_1062, wm_2, wm_1063, by decide +kernel⟩
set_option maxRecDepth 100000 in
set_option maxHeartbeats 40000000 in
theorem c_Top_isImage (l : Launch) {E : sy_ET} {p0 : Int32} {S S' : sy_St} {r : Int32} (h : m_Top_isImage p0 S = some (r, S')) : sy_MI l yX11_isImage cX11_isImage 1 (some .boolean) 0 0 [.int p0] E S r S' := by
  refine sy_MI_of RX11 pn_11 rfl (Nat.le_of_ble_eq_true rfl) (fun p e s m args below meth c A ls fx hr hlk hA X hl => ?_)
  have hx := fx.1
  have hb := fx.2.1
  have hown := fx.2.2.2.1
  have hts := fx.2.2.2.2
  have hl : lv_has ls 1 [(0, .int p0)] := hl
  unfold m_Top_isImage at h
  refine lv_iload_n hx hb dX11_isImage_0 rfl (lv_at hl 0 rfl) ?_
  refine lv_if_lt (tgt := 13) hx hb dX11_isImage_1 (by decide) (fun c1 => ?_) (fun c1 => ?_)
  · have h := sy_t c1 h
    refine lv_iconst (v := 0) hx hb dX11_isImage_13 (by decide) ?_
    exact sy_zret fx X hr hlk (Or.inl rfl) h dX11_isImage_14
  · have h := sy_f c1 h
    refine lv_iload_n hx hb dX11_isImage_4 rfl (lv_at hl 0 rfl) ?_
    refine lv_iconst (v := 2) hx hb dX11_isImage_5 (by decide) ?_
    refine lv_icmp_ge (tgt := 13) hx hb dX11_isImage_6 (by decide) (fun c2 => ?_) (fun c2 => ?_)
    · have h := sy_t c2 h
      refine lv_iconst (v := 0) hx hb dX11_isImage_13 (by decide) ?_
      exact sy_zret fx X hr hlk (Or.inl rfl) h dX11_isImage_14
    · have h := sy_f c2 h
      refine lv_iconst (v := 1) hx hb dX11_isImage_9 (by decide) ?_
      refine lv_goto (tgt := 14) hx hb dX11_isImage_10 (by decide) ?_
      exact sy_zret fx X hr hlk (Or.inr rfl) h dX11_isImage_14
def m_Top_goBack (p0 : Int32) (S : sy_St) : sy_R := sy_c (m_Top_isImage p0 S) fun r2 S1 => if r2 = 0 then (some ((-1000000001), S1)) else (sy_g (sy_in p0 2) <| if (S1 368 p0.toNatClampNeg) = 0 then (some ((-1000000003), S1)) else (sy_g (sy_in p0 2) <| sy_c (m_Sky_copyFrom 45 (358 + 5 * p0.toNatClampNeg) S1) fun r9 S8 => sy_g (sy_in p0 2) <| sy_b (sy_up S8 0 15 (S8 369 p0.toNatClampNeg)) fun S12 => sy_c (m_Past_forget S12) fun r14 S13 => some (1, S13)))
theorem cv_Top_goBack : sy_cV RX11 yX11_goBack cX11_goBack 2 (some .int) 1 := ⟨wm_1069, wm_1070, wm_2, wm_1071, by decide +kernel⟩
set_option maxRecDepth 100000 in
set_option maxHeartbeats 40000000 in
theorem c_Top_goBack (l : Launch) {E : sy_ET} (ht : sy_OTop E) {p0 : Int32} {S S' : sy_St} {r : Int32} (h : m_Top_goBack p0 S = some (r, S')) : sy_MI l yX11_goBack cX11_goBack 2 (some .int) 2 81 [.ref (sy_ad E 0), .int p0] E S r S' := by
  refine sy_MI_of RX11 pn_11 rfl (Nat.le_of_ble_eq_true rfl) (fun p e s m args below meth c A ls fx hr hlk hA X hl => ?_)
  have hx := fx.1
  have hb := fx.2.1
  have hown := fx.2.2.2.1
  have hts := fx.2.2.2.2
  have hl : lv_has ls 2 [(0, .ref (sy_ad E 0)), (1, .int p0)] := hl
  unfold m_Top_goBack at h
  refine lv_iload_n hx hb dX11_goBack_0 rfl (lv_at hl 1 rfl) ?_
  obtain ⟨r2, S1, hc3, h⟩ := sy_c_e h
  refine sy_si (rest := []) fx hA X hl.1 (c_Top_isImage l hc3) cv_Top_isImage wm_1061 ⟨Nat.le_of_ble_eq_true rfl, Nat.le_of_ble_eq_true rfl, Nat.le_refl _, Nat.le_refl _⟩ rfl rfl (Nat.le_of_ble_eq_true rfl) dX11_goBack_1 (fun H locs X => ?_)
  refine lv_if_ne (tgt := 10) hx hb dX11_goBack_4 (by decide) (fun c4 => ?_) (fun c4 => ?_)
  · have h := sy_f c4 h
    refine lv_aload_n hx hb dX11_goBack_10 rfl (lv_at hl 0 rfl) ?_
    refine sy_q10 fx X (sy_OTop_o ht) 6 (by decide) wm_31 (fun _ h9 => h9) rfl (sy_OTop_r6 ht) dX11_goBack_11 ?_
    refine lv_iload_n hx hb dX11_goBack_14 rfl (lv_at hl 1 rfl) ?_
    obtain ⟨g5, h⟩ := sy_g_e h
    refine sy_zald fx X (sy_OTop_a6 ht) g5 dX11_goBack_15 ?_
    refine lv_if_ne (tgt := 22) hx hb dX11_goBack_16 (by decide) (fun c6 => ?_) (fun c6 => ?_)
    · have h := sy_f c6 h
      refine lv_aload_n hx hb dX11_goBack_22 rfl (lv_at hl 0 rfl) ?_
      refine sy_q10 fx X (sy_OTop_o ht) 2 (by decide) wm_23 (fun _ h9 => h9) rfl (sy_OTop_r2 ht) dX11_goBack_23 ?_
      refine lv_aload_n hx hb dX11_goBack_26 rfl (lv_at hl 0 rfl) ?_
      refine sy_q10 fx X (sy_OTop_o ht) 5 (by decide) wm_29 (fun _ h9 => h9) rfl (sy_OTop_r5 ht) dX11_goBack_27 ?_
      refine lv_iload_n hx hb dX11_goBack_30 rfl (lv_at hl 1 rfl) ?_
      obtain ⟨g7, h⟩ := sy_g_e h
      refine sy_aald fx X (sy_OTop_a5 ht).1 g7 ((sy_OTop_a5 ht).2 _ (sy_in_lt g7)).1 dX11_goBack_31 ?_
      obtain ⟨r9, S8, hc10, h⟩ := sy_c_e h
      refine sy_vv (rest := []) fx hA X hl.1 (sy_OSky_o (sy_OTop_a2 ht)) (sy_en9 (sy_OSky_o (sy_OTop_a2 ht)).2) rfl (c_Sky_copyFrom l (sy_OTop_a2 ht) ((sy_OTop_a5 ht).2 _ (sy_in_lt g7)).2 hc10) cv_Sky_copyFrom wm_963 ⟨Nat.le_of_ble_eq_true rfl, Nat.le_of_ble_eq_true rfl, Nat.le_refl _, Nat.le_refl _⟩ rfl rfl (Nat.le_of_ble_eq_true rfl) dX11_goBack_32 (fun H locs X => ?_)
      refine lv_aload_n hx hb dX11_goBack_35 rfl (lv_at hl 0 rfl) ?_
      refine lv_aload_n hx hb dX11_goBack_36 rfl (lv_at hl 0 rfl) ?_
      refine sy_q10 fx X (sy_OTop_o ht) 7 (by decide) wm_33 (fun _ h9 => h9) rfl (sy_OTop_r7 ht) dX11_goBack_37 ?_
      refine lv_iload_n hx hb dX11_goBack_40 rfl (lv_at hl 1 rfl) ?_
      obtain ⟨g11, h⟩ := sy_g_e h
      refine sy_iald fx X (sy_OTop_a7 ht) g11 dX11_goBack_41 ?_
      obtain ⟨S12, hS12, h⟩ := sy_b_e h
      refine sy_p10 fx X (sy_OTop_o ht) 15 (by decide) wm_59 (fun _ h9 => h9) rfl (ty := .int) (by decide +kernel) rfl rfl hS12 sy_s10_15 dX11_goBack_42 (fun H locs X => ?_)
      refine lv_aload_n hx hb dX11_goBack_45 rfl (lv_at hl 0 rfl) ?_
      refine sy_q10 fx X (sy_OTop_o ht) 4 (by decide) wm_28 (fun _ h9 => h9) rfl (sy_OTop_r4 ht) dX11_goBack_46 ?_
      obtain ⟨r14, S13, hc15, h⟩ := sy_c_e h
      refine sy_vv (rest := []) fx hA X hl.1 (sy_OPast_o (sy_OTop_a4 ht)) (sy_en5 (sy_OPast_o (sy_OTop_a4 ht)).2) rfl (c_Past_forget l (sy_OTop_a4 ht) hc15) cv_Past_forget wm_308 ⟨Nat.le_of_ble_eq_true rfl, Nat.le_of_ble_eq_true rfl, Nat.le_refl _, Nat.le_refl _⟩ rfl rfl (Nat.le_of_ble_eq_true rfl) dX11_goBack_49 (fun H locs X => ?_)
      refine lv_iconst (v := 1) hx hb dX11_goBack_52 (by decide) ?_
      exact sy_iret fx X hr hlk h dX11_goBack_53
    · have h := sy_t c6 h
      refine lv_ldc (v := (-1000000003)) hx hb hown (hts _ wm_478) dX11_goBack_19 ?_
      exact sy_iret fx X hr hlk h dX11_goBack_21
  · have h := sy_t c4 h
    refine lv_ldc (v := (-1000000001)) hx hb hown (hts _ wm_441) dX11_goBack_7 ?_
    exact sy_iret fx X hr hlk h dX11_goBack_9
def m_Top_harmBehind_B13 (kk13 : Int32 → Int32 → Int32 → sy_St → sy_R) (y1 : Int32) (y2 : Int32) (y3 : Int32) (S : sy_St) : sy_R := if y1 ≤ y3 then (some (S 50 7, S)) else (sy_c (m_Sky_passHour 50 y2 S) fun r6 S5 => sy_b (y3 + 1 : Int32) fun x8 => kk13 y1 y2 x8 S5)
def m_Top_harmBehind (p0 : Int32) (p1 : Int32) (S : sy_St) : sy_R := sy_c (m_Sky_copyFrom 50 45 S) fun r2 S1 => sy_fix (fun _ _ _ _ => none) (m_Top_harmBehind_B13) sy_F p0 p1 0 S1
theorem cv_Top_harmBehind : sy_cV RX11 yX11_harmBehind cX11_harmBehind 4 (some .int) 2 := ⟨wm_960, wm_961, wm_2, wm_962, by decide +kernel⟩
set_option maxRecDepth 100000 in
set_option maxHeartbeats 40000000 in
theorem c_Top_harmBehind (l : Launch) {E : sy_ET} (ht : sy_OTop E) {p0 : Int32} {p1 : Int32} {S S' : sy_St} {r : Int32} (h : m_Top_harmBehind p0 p1 S = some (r, S')) : sy_MI l yX11_harmBehind cX11_harmBehind 4 (some .int) 4 102 [.ref (sy_ad E 0), .int p0, .int p1] E S r S' := by
  refine sy_MI_of RX11 pn_11 rfl (Nat.le_of_ble_eq_true rfl) (fun p e s m args below meth c A ls fx hr hlk hA X hl => ?_)
  have hx := fx.1
  have hb := fx.2.1
  have hown := fx.2.2.2.1
  have hts := fx.2.2.2.2
  have hl : lv_has ls 4 [(0, .ref (sy_ad E 0)), (1, .int p0), (2, .int p1)] := hl
  have L_13 : ∀ (n13 : Nat) (y1 y2 y3 : Int32) (S : sy_St) (H : Heap) (locs : List Loc) (ls : Array Slot), sy_Wd E A s S H locs → lv_has ls 4 [(0, .ref (sy_ad E 0)), (1, .int y1), (2, .int y2), (3, .int y3)] → sy_fix (fun _ _ _ _ => none) (m_Top_harmBehind_B13) n13 y1 y2 y3 S = some (r, S') → W p l e (sy_rm 4 102) s m args below meth c H locs 0 0 (MQ below (sy_Qi E A r S') args s 0 0 A) (F0 m 13 ls []) := by
    intro n13
    induction n13 with
    | zero => intro y1 y2 y3 S H locs ls X hl h; have h9 : (none : sy_R) = some (r, S') := h; cases h9
    | succ n13 ih13 =>
      intro y1 y2 y3 S H locs ls X hl h
      have h : m_Top_harmBehind_B13 (sy_fix (fun _ _ _ _ => none) (m_Top_harmBehind_B13) n13) y1 y2 y3 S = some (r, S') := h
      unfold m_Top_harmBehind_B13 at h
      refine lv_iload_n hx hb dX11_harmBehind_13 rfl (lv_at hl 3 rfl) ?_
      refine lv_iload_n hx hb dX11_harmBehind_14 rfl (lv_at hl 1 rfl) ?_
      refine lv_icmp_ge (tgt := 32) hx hb dX11_harmBehind_15 (by decide) (fun c4 => ?_) (fun c4 => ?_)
      · have h := sy_t c4 h
        refine lv_aload_n hx hb dX11_harmBehind_32 rfl (lv_at hl 0 rfl) ?_
        refine sy_q10 fx X (sy_OTop_o ht) 3 (by decide) wm_24 (fun _ h9 => h9) rfl (sy_OTop_r3 ht) dX11_harmBehind_33 ?_
        refine sy_g9 fx X (sy_OSky_o (sy_OTop_a3 ht)) 7 (by decide) wm_391 (fun _ h9 => h9) rfl dX11_harmBehind_36 ?_
        exact sy_iret fx X hr hlk h dX11_harmBehind_39
      · have h := sy_f c4 h
        refine lv_aload_n hx hb dX11_harmBehind_18 rfl (lv_at hl 0 rfl) ?_
        refine sy_q10 fx X (sy_OTop_o ht) 3 (by decide) wm_24 (fun _ h9 => h9) rfl (sy_OTop_r3 ht) dX11_harmBehind_19 ?_
        refine lv_iload_n hx hb dX11_harmBehind_22 rfl (lv_at hl 2 rfl) ?_
        obtain ⟨r6, S5, hc7, h⟩ := sy_c_e h
        refine sy_vv (rest := []) fx hA X hl.1 (sy_OSky_o (sy_OTop_a3 ht)) (sy_en9 (sy_OSky_o (sy_OTop_a3 ht)).2) rfl (c_Sky_passHour l (sy_OTop_a3 ht) hc7) cv_Sky_passHour wm_499 ⟨Nat.le_of_ble_eq_true rfl, Nat.le_of_ble_eq_true rfl, Nat.le_refl _, Nat.le_refl _⟩ rfl rfl (Nat.le_of_ble_eq_true rfl) dX11_harmBehind_23 (fun H locs X => ?_)
        obtain ⟨x8, hx8, h⟩ := sy_b_e h
        refine lv_iinc (v := x8) (lv' := [(3, .int x8), (0, .ref (sy_ad E 0)), (1, .int y1), (2, .int y2)]) hx hb dX11_harmBehind_26 hl (k := 3) rfl (by rw [hx8]; rfl) (by decide) rfl (fun ls hl => ?_)
        refine lv_goto (tgt := 13) hx hb dX11_harmBehind_29 (by decide) ?_
        exact ih13 y1 y2 x8 S5 _ _ _ X (lv_sub hl [1, 2, 3, 0] rfl) h
  unfold m_Top_harmBehind at h
  refine lv_aload_n hx hb dX11_harmBehind_0 rfl (lv_at hl 0 rfl) ?_
  refine sy_q10 fx X (sy_OTop_o ht) 3 (by decide) wm_24 (fun _ h9 => h9) rfl (sy_OTop_r3 ht) dX11_harmBehind_1 ?_
  refine lv_aload_n hx hb dX11_harmBehind_4 rfl (lv_at hl 0 rfl) ?_
  refine sy_q10 fx X (sy_OTop_o ht) 2 (by decide) wm_23 (fun _ h9 => h9) rfl (sy_OTop_r2 ht) dX11_harmBehind_5 ?_
  obtain ⟨r2, S1, hc3, h⟩ := sy_c_e h
  refine sy_vv (rest := []) fx hA X hl.1 (sy_OSky_o (sy_OTop_a3 ht)) (sy_en9 (sy_OSky_o (sy_OTop_a3 ht)).2) rfl (c_Sky_copyFrom l (sy_OTop_a3 ht) (sy_OTop_a2 ht) hc3) cv_Sky_copyFrom wm_963 ⟨Nat.le_of_ble_eq_true rfl, Nat.le_of_ble_eq_true rfl, Nat.le_refl _, Nat.le_refl _⟩ rfl rfl (Nat.le_of_ble_eq_true rfl) dX11_harmBehind_8 (fun H locs X => ?_)
  refine lv_iconst (v := 0) hx hb dX11_harmBehind_11 (by decide) ?_
  refine lv_istore_n (lv' := [(3, .int 0), (0, .ref (sy_ad E 0)), (1, .int p0), (2, .int p1)]) hx hb dX11_harmBehind_12 rfl hl (by decide) rfl (fun ls hl => ?_)
  exact L_13 sy_F p0 p1 0 S1 _ _ _ X (lv_sub hl [1, 2, 3, 0] rfl) h
def m_Top_hour_B29 (kk29 : Int32 → Int32 → sy_St → sy_R) (y1 : Int32) (y2 : Int32) (S : sy_St) : sy_R := if y1 ≤ y2 then (some (S 45 6, S)) else (sy_c (m_Top_letHourPass S) fun r9 S8 => sy_b (y2 + 1 : Int32) fun x11 => kk29 y1 x11 S8)
def m_Top_hour (p0 : Int32) (S : sy_St) : sy_R := if p0 < 1 then (some ((-1000000002), S)) else (if p0 ≤ 99 then (sy_c (m_Edge_isWhole 1 S) fun r4 S3 => if r4 = 0 then (some ((-1000000003), S3)) else (sy_fix (fun _ _ _ => none) (m_Top_hour_B29) sy_F p0 0 S3)) else (some ((-1000000002), S)))
theorem cv_Top_hour : sy_cV RX11 yX11_hour cX11_hour 3 (some .int) 1 := ⟨wm_475, wm_476, wm_2, wm_477, by decide +kernel⟩
set_option maxRecDepth 100000 in
set_option maxHeartbeats 40000000 in
theorem c_Top_hour (l : Launch) {E : sy_ET} (ht : sy_OTop E) {p0 : Int32} {S S' : sy_St} {r : Int32} (h : m_Top_hour p0 S = some (r, S')) : sy_MI l yX11_hour cX11_hour 3 (some .int) 5 122 [.ref (sy_ad E 0), .int p0] E S r S' := by
  refine sy_MI_of RX11 pn_11 rfl (Nat.le_of_ble_eq_true rfl) (fun p e s m args below meth c A ls fx hr hlk hA X hl => ?_)
  have hx := fx.1
  have hb := fx.2.1
  have hown := fx.2.2.2.1
  have hts := fx.2.2.2.2
  have hl : lv_has ls 3 [(0, .ref (sy_ad E 0)), (1, .int p0)] := hl
  have L_29 : ∀ (n29 : Nat) (y1 y2 : Int32) (S : sy_St) (H : Heap) (locs : List Loc) (ls : Array Slot), sy_Wd E A s S H locs → lv_has ls 3 [(0, .ref (sy_ad E 0)), (1, .int y1), (2, .int y2)] → sy_fix (fun _ _ _ => none) (m_Top_hour_B29) n29 y1 y2 S = some (r, S') → W p l e (sy_rm 5 122) s m args below meth c H locs 0 0 (MQ below (sy_Qi E A r S') args s 0 0 A) (F0 m 29 ls []) := by
    intro n29
    induction n29 with
    | zero => intro y1 y2 S H locs ls X hl h; have h9 : (none : sy_R) = some (r, S') := h; cases h9
    | succ n29 ih29 =>
      intro y1 y2 S H locs ls X hl h
      have h : m_Top_hour_B29 (sy_fix (fun _ _ _ => none) (m_Top_hour_B29) n29) y1 y2 S = some (r, S') := h
      unfold m_Top_hour_B29 at h
      refine lv_iload_n hx hb dX11_hour_29 rfl (lv_at hl 2 rfl) ?_
      refine lv_iload_n hx hb dX11_hour_30 rfl (lv_at hl 1 rfl) ?_
      refine lv_icmp_ge (tgt := 44) hx hb dX11_hour_31 (by decide) (fun c7 => ?_) (fun c7 => ?_)
      · have h := sy_t c7 h
        refine lv_aload_n hx hb dX11_hour_44 rfl (lv_at hl 0 rfl) ?_
        refine sy_q10 fx X (sy_OTop_o ht) 2 (by decide) wm_23 (fun _ h9 => h9) rfl (sy_OTop_r2 ht) dX11_hour_45 ?_
        refine sy_g9 fx X (sy_OSky_o (sy_OTop_a2 ht)) 6 (by decide) wm_390 (fun _ h9 => h9) rfl dX11_hour_48 ?_
        exact sy_iret fx X hr hlk h dX11_hour_51
      · have h := sy_f c7 h
        refine lv_aload_n hx hb dX11_hour_34 rfl (lv_at hl 0 rfl) ?_
        obtain ⟨r9, S8, hc10, h⟩ := sy_c_e h
        refine sy_vv (rest := []) fx hA X hl.1 (sy_OTop_o ht) (sy_en10 (sy_OTop_o ht).2) rfl (c_Top_letHourPass l ht hc10) cv_Top_letHourPass wm_483 ⟨Nat.le_of_ble_eq_true rfl, Nat.le_of_ble_eq_true rfl, Nat.le_refl _, Nat.le_refl _⟩ rfl rfl (Nat.le_of_ble_eq_true rfl) dX11_hour_35 (fun H locs X => ?_)
        obtain ⟨x11, hx11, h⟩ := sy_b_e h
        refine lv_iinc (v := x11) (lv' := [(2, .int x11), (0, .ref (sy_ad E 0)), (1, .int y1)]) hx hb dX11_hour_38 hl (k := 2) rfl (by rw [hx11]; rfl) (by decide) rfl (fun ls hl => ?_)
        refine lv_goto (tgt := 29) hx hb dX11_hour_41 (by decide) ?_
        exact ih29 y1 x11 S8 _ _ _ X (lv_sub hl [1, 2, 0] rfl) h
  unfold m_Top_hour at h
  refine lv_iload_n hx hb dX11_hour_0 rfl (lv_at hl 1 rfl) ?_
  refine lv_iconst (v := 1) hx hb dX11_hour_1 (by decide) ?_
  refine lv_icmp_lt (tgt := 11) hx hb dX11_hour_2 (by decide) (fun c1 => ?_) (fun c1 => ?_)
  · have h := sy_t c1 h
    refine lv_ldc (v := (-1000000002)) hx hb hown (hts _ wm_196) dX11_hour_11 ?_
    exact sy_iret fx X hr hlk h dX11_hour_13
  · have h := sy_f c1 h
    refine lv_iload_n hx hb dX11_hour_5 rfl (lv_at hl 1 rfl) ?_
    refine lv_bipush (v := 99) hx hb dX11_hour_6 (by decide) ?_
    refine lv_icmp_le (tgt := 14) hx hb dX11_hour_8 (by decide) (fun c2 => ?_) (fun c2 => ?_)
    · have h := sy_t c2 h
      refine lv_aload_n hx hb dX11_hour_14 rfl (lv_at hl 0 rfl) ?_
      refine sy_q10 fx X (sy_OTop_o ht) 0 (by decide) wm_18 (fun _ h9 => h9) rfl (sy_OTop_r0 ht) dX11_hour_15 ?_
      obtain ⟨r4, S3, hc5, h⟩ := sy_c_e h
      refine sy_vi (rest := []) fx hA X hl.1 (sy_OEdge_o (sy_OTop_a0 ht)) (sy_en3 (sy_OEdge_o (sy_OTop_a0 ht)).2) rfl (c_Edge_isWhole l (sy_OTop_a0 ht) hc5) cv_Edge_isWhole wm_479 ⟨Nat.le_of_ble_eq_true rfl, Nat.le_of_ble_eq_true rfl, Nat.le_refl _, Nat.le_refl _⟩ rfl rfl (Nat.le_of_ble_eq_true rfl) dX11_hour_18 (fun H locs X => ?_)
      refine lv_if_ne (tgt := 27) hx hb dX11_hour_21 (by decide) (fun c6 => ?_) (fun c6 => ?_)
      · have h := sy_f c6 h
        refine lv_iconst (v := 0) hx hb dX11_hour_27 (by decide) ?_
        refine lv_istore_n (lv' := [(2, .int 0), (0, .ref (sy_ad E 0)), (1, .int p0)]) hx hb dX11_hour_28 rfl hl (by decide) rfl (fun ls hl => ?_)
        exact L_29 sy_F p0 0 S3 _ _ _ X (lv_sub hl [1, 2, 0] rfl) h
      · have h := sy_t c6 h
        refine lv_ldc (v := (-1000000003)) hx hb hown (hts _ wm_478) dX11_hour_24 ?_
        exact sy_iret fx X hr hlk h dX11_hour_26
    · have h := sy_f c2 h
      refine lv_ldc (v := (-1000000002)) hx hb hown (hts _ wm_196) dX11_hour_11 ?_
      exact sy_iret fx X hr hlk h dX11_hour_13
def m_Top_isNoGain (p0 : Int32) (S : sy_St) : sy_R := if p0 < 0 then (some (1, S)) else (if p0 ≤ 9 then (some (0, S)) else (some (1, S)))
theorem cv_Top_isNoGain : sy_cS RX11 yX11_isNoGain cX11_isNoGain 1 (some .boolean) 1 := ⟨wm_915, wm_2, wm_916, by decide +kernel⟩
set_option maxRecDepth 100000 in
set_option maxHeartbeats 40000000 in
theorem c_Top_isNoGain (l : Launch) {E : sy_ET} {p0 : Int32} {S S' : sy_St} {r : Int32} (h : m_Top_isNoGain p0 S = some (r, S')) : sy_MI l yX11_isNoGain cX11_isNoGain 1 (some .boolean) 0 0 [.int p0] E S r S' := by
  refine sy_MI_of RX11 pn_11 rfl (Nat.le_of_ble_eq_true rfl) (fun p e s m args below meth c A ls fx hr hlk hA X hl => ?_)
  have hx := fx.1
  have hb := fx.2.1
  have hown := fx.2.2.2.1
  have hts := fx.2.2.2.2
  have hl : lv_has ls 1 [(0, .int p0)] := hl
  unfold m_Top_isNoGain at h
  refine lv_iload_n hx hb dX11_isNoGain_0 rfl (lv_at hl 0 rfl) ?_
  refine lv_if_lt (tgt := 10) hx hb dX11_isNoGain_1 (by decide) (fun c1 => ?_) (fun c1 => ?_)
  · have h := sy_t c1 h
    refine lv_iconst (v := 1) hx hb dX11_isNoGain_10 (by decide) ?_
    refine lv_goto (tgt := 15) hx hb dX11_isNoGain_11 (by decide) ?_
    exact sy_zret fx X hr hlk (Or.inr rfl) h dX11_isNoGain_15
  · have h := sy_f c1 h
    refine lv_iload_n hx hb dX11_isNoGain_4 rfl (lv_at hl 0 rfl) ?_
    refine lv_bipush (v := 9) hx hb dX11_isNoGain_5 (by decide) ?_
    refine lv_icmp_le (tgt := 14) hx hb dX11_isNoGain_7 (by decide) (fun c2 => ?_) (fun c2 => ?_)
    · have h := sy_t c2 h
      refine lv_iconst (v := 0) hx hb dX11_isNoGain_14 (by decide) ?_
      exact sy_zret fx X hr hlk (Or.inl rfl) h dX11_isNoGain_15
    · have h := sy_f c2 h
      refine lv_iconst (v := 1) hx hb dX11_isNoGain_10 (by decide) ?_
      refine lv_goto (tgt := 15) hx hb dX11_isNoGain_11 (by decide) ?_
      exact sy_zret fx X hr hlk (Or.inr rfl) h dX11_isNoGain_15
def m_Top_isNoTrial (p0 : Int32) (p1 : Int32) (S : sy_St) : sy_R := if p0 < 1 then (some (1, S)) else (if 5 < p0 then (some (1, S)) else (if p1 < 0 then (some (1, S)) else (if p1 ≤ 99 then (some (0, S)) else (some (1, S)))))
theorem cv_Top_isNoTrial : sy_cS RX11 yX11_isNoTrial cX11_isNoTrial 2 (some .boolean) 2 := ⟨wm_687, wm_2, wm_688, by decide +kernel⟩
set_option maxRecDepth 100000 in
set_option maxHeartbeats 40000000 in
theorem c_Top_isNoTrial (l : Launch) {E : sy_ET} {p0 : Int32} {p1 : Int32} {S S' : sy_St} {r : Int32} (h : m_Top_isNoTrial p0 p1 S = some (r, S')) : sy_MI l yX11_isNoTrial cX11_isNoTrial 2 (some .boolean) 0 0 [.int p0, .int p1] E S r S' := by
  refine sy_MI_of RX11 pn_11 rfl (Nat.le_of_ble_eq_true rfl) (fun p e s m args below meth c A ls fx hr hlk hA X hl => ?_)
  have hx := fx.1
  have hb := fx.2.1
  have hown := fx.2.2.2.1
  have hts := fx.2.2.2.2
  have hl : lv_has ls 2 [(0, .int p0), (1, .int p1)] := hl
  unfold m_Top_isNoTrial at h
  refine lv_iload_n hx hb dX11_isNoTrial_0 rfl (lv_at hl 0 rfl) ?_
  refine lv_iconst (v := 1) hx hb dX11_isNoTrial_1 (by decide) ?_
  refine lv_icmp_lt (tgt := 20) hx hb dX11_isNoTrial_2 (by decide) (fun c1 => ?_) (fun c1 => ?_)
  · have h := sy_t c1 h
    refine lv_iconst (v := 1) hx hb dX11_isNoTrial_20 (by decide) ?_
    refine lv_goto (tgt := 25) hx hb dX11_isNoTrial_21 (by decide) ?_
    exact sy_zret fx X hr hlk (Or.inr rfl) h dX11_isNoTrial_25
  · have h := sy_f c1 h
    refine lv_iload_n hx hb dX11_isNoTrial_5 rfl (lv_at hl 0 rfl) ?_
    refine lv_iconst (v := 5) hx hb dX11_isNoTrial_6 (by decide) ?_
    refine lv_icmp_gt (tgt := 20) hx hb dX11_isNoTrial_7 (by decide) (fun c2 => ?_) (fun c2 => ?_)
    · have h := sy_t c2 h
      refine lv_iconst (v := 1) hx hb dX11_isNoTrial_20 (by decide) ?_
      refine lv_goto (tgt := 25) hx hb dX11_isNoTrial_21 (by decide) ?_
      exact sy_zret fx X hr hlk (Or.inr rfl) h dX11_isNoTrial_25
    · have h := sy_f c2 h
      refine lv_iload_n hx hb dX11_isNoTrial_10 rfl (lv_at hl 1 rfl) ?_
      refine lv_if_lt (tgt := 20) hx hb dX11_isNoTrial_11 (by decide) (fun c3 => ?_) (fun c3 => ?_)
      · have h := sy_t c3 h
        refine lv_iconst (v := 1) hx hb dX11_isNoTrial_20 (by decide) ?_
        refine lv_goto (tgt := 25) hx hb dX11_isNoTrial_21 (by decide) ?_
        exact sy_zret fx X hr hlk (Or.inr rfl) h dX11_isNoTrial_25
      · have h := sy_f c3 h
        refine lv_iload_n hx hb dX11_isNoTrial_14 rfl (lv_at hl 1 rfl) ?_
        refine lv_bipush (v := 99) hx hb dX11_isNoTrial_15 (by decide) ?_
        refine lv_icmp_le (tgt := 24) hx hb dX11_isNoTrial_17 (by decide) (fun c4 => ?_) (fun c4 => ?_)
        · have h := sy_t c4 h
          refine lv_iconst (v := 0) hx hb dX11_isNoTrial_24 (by decide) ?_
          exact sy_zret fx X hr hlk (Or.inl rfl) h dX11_isNoTrial_25
        · have h := sy_f c4 h
          refine lv_iconst (v := 1) hx hb dX11_isNoTrial_20 (by decide) ?_
          refine lv_goto (tgt := 25) hx hb dX11_isNoTrial_21 (by decide) ?_
          exact sy_zret fx X hr hlk (Or.inr rfl) h dX11_isNoTrial_25
def m_Top_join (p0 : Int32) (S : sy_St) : sy_R := sy_c (m_Edge_isPerson 1 p0 S) fun r2 S1 => if r2 = 0 then (some ((-1000000001), S1)) else (if (S1 45 10) = (-1) then (sy_c (m_Sky_isHolding 45 p0 S1) fun r7 S6 => if r7 = 0 then (sy_c (m_Edge_areLevel 1 (S6 45 9) p0 S6) fun r11 S10 => if r11 = 0 then (some ((-1000000003), S10)) else (sy_b (sy_up S10 45 10 p0) fun S14 => sy_c (m_Sky_forceHeld 45 S14) fun r16 S15 => some (r16, S15))) else (some ((-1000000003), S6))) else (some ((-1000000003), S1)))
theorem cv_Top_join : sy_cV RX11 yX11_join cX11_join 2 (some .int) 1 := ⟨wm_615, wm_616, wm_2, wm_617, by decide +kernel⟩
set_option maxRecDepth 100000 in
set_option maxHeartbeats 40000000 in
theorem c_Top_join (l : Launch) {E : sy_ET} (ht : sy_OTop E) {p0 : Int32} {S S' : sy_St} {r : Int32} (h : m_Top_join p0 S = some (r, S')) : sy_MI l yX11_join cX11_join 2 (some .int) 3 74 [.ref (sy_ad E 0), .int p0] E S r S' := by
  refine sy_MI_of RX11 pn_11 rfl (Nat.le_of_ble_eq_true rfl) (fun p e s m args below meth c A ls fx hr hlk hA X hl => ?_)
  have hx := fx.1
  have hb := fx.2.1
  have hown := fx.2.2.2.1
  have hts := fx.2.2.2.2
  have hl : lv_has ls 2 [(0, .ref (sy_ad E 0)), (1, .int p0)] := hl
  unfold m_Top_join at h
  refine lv_aload_n hx hb dX11_join_0 rfl (lv_at hl 0 rfl) ?_
  refine sy_q10 fx X (sy_OTop_o ht) 0 (by decide) wm_18 (fun _ h9 => h9) rfl (sy_OTop_r0 ht) dX11_join_1 ?_
  refine lv_iload_n hx hb dX11_join_4 rfl (lv_at hl 1 rfl) ?_
  obtain ⟨r2, S1, hc3, h⟩ := sy_c_e h
  refine sy_vi (rest := []) fx hA X hl.1 (sy_OEdge_o (sy_OTop_a0 ht)) (sy_en3 (sy_OEdge_o (sy_OTop_a0 ht)).2) rfl (c_Edge_isPerson l (sy_OTop_a0 ht) hc3) cv_Edge_isPerson wm_451 ⟨Nat.le_of_ble_eq_true rfl, Nat.le_of_ble_eq_true rfl, Nat.le_refl _, Nat.le_refl _⟩ rfl rfl (Nat.le_of_ble_eq_true rfl) dX11_join_5 (fun H locs X => ?_)
  refine lv_if_ne (tgt := 14) hx hb dX11_join_8 (by decide) (fun c4 => ?_) (fun c4 => ?_)
  · have h := sy_f c4 h
    refine lv_aload_n hx hb dX11_join_14 rfl (lv_at hl 0 rfl) ?_
    refine sy_q10 fx X (sy_OTop_o ht) 2 (by decide) wm_23 (fun _ h9 => h9) rfl (sy_OTop_r2 ht) dX11_join_15 ?_
    refine sy_g9 fx X (sy_OSky_o (sy_OTop_a2 ht)) 10 (by decide) wm_394 (fun _ h9 => h9) rfl dX11_join_18 ?_
    refine lv_iconst (v := (-1)) hx hb dX11_join_21 (by decide) ?_
    refine lv_icmp_ne (tgt := 54) hx hb dX11_join_22 (by decide) (fun c5 => ?_) (fun c5 => ?_)
    · have h := sy_f c5 h
      refine lv_ldc (v := (-1000000003)) hx hb hown (hts _ wm_478) dX11_join_54 ?_
      exact sy_iret fx X hr hlk h dX11_join_56
    · have h := sy_t c5 h
      refine lv_aload_n hx hb dX11_join_25 rfl (lv_at hl 0 rfl) ?_
      refine sy_q10 fx X (sy_OTop_o ht) 2 (by decide) wm_23 (fun _ h9 => h9) rfl (sy_OTop_r2 ht) dX11_join_26 ?_
      refine lv_iload_n hx hb dX11_join_29 rfl (lv_at hl 1 rfl) ?_
      obtain ⟨r7, S6, hc8, h⟩ := sy_c_e h
      refine sy_vi (rest := []) fx hA X hl.1 (sy_OSky_o (sy_OTop_a2 ht)) (sy_en9 (sy_OSky_o (sy_OTop_a2 ht)).2) rfl (c_Sky_isHolding l (sy_OTop_a2 ht) hc8) cv_Sky_isHolding wm_551 ⟨Nat.le_of_ble_eq_true rfl, Nat.le_of_ble_eq_true rfl, Nat.le_refl _, Nat.le_refl _⟩ rfl rfl (Nat.le_of_ble_eq_true rfl) dX11_join_30 (fun H locs X => ?_)
      refine lv_if_ne (tgt := 54) hx hb dX11_join_33 (by decide) (fun c9 => ?_) (fun c9 => ?_)
      · have h := sy_f c9 h
        refine lv_ldc (v := (-1000000003)) hx hb hown (hts _ wm_478) dX11_join_54 ?_
        exact sy_iret fx X hr hlk h dX11_join_56
      · have h := sy_t c9 h
        refine lv_aload_n hx hb dX11_join_36 rfl (lv_at hl 0 rfl) ?_
        refine sy_q10 fx X (sy_OTop_o ht) 0 (by decide) wm_18 (fun _ h9 => h9) rfl (sy_OTop_r0 ht) dX11_join_37 ?_
        refine lv_aload_n hx hb dX11_join_40 rfl (lv_at hl 0 rfl) ?_
        refine sy_q10 fx X (sy_OTop_o ht) 2 (by decide) wm_23 (fun _ h9 => h9) rfl (sy_OTop_r2 ht) dX11_join_41 ?_
        refine sy_g9 fx X (sy_OSky_o (sy_OTop_a2 ht)) 9 (by decide) wm_393 (fun _ h9 => h9) rfl dX11_join_44 ?_
        refine lv_iload_n hx hb dX11_join_47 rfl (lv_at hl 1 rfl) ?_
        obtain ⟨r11, S10, hc12, h⟩ := sy_c_e h
        refine sy_vi (rest := []) fx hA X hl.1 (sy_OEdge_o (sy_OTop_a0 ht)) (sy_en3 (sy_OEdge_o (sy_OTop_a0 ht)).2) rfl (c_Edge_areLevel l (sy_OTop_a0 ht) hc12) cv_Edge_areLevel wm_618 ⟨Nat.le_of_ble_eq_true rfl, Nat.le_of_ble_eq_true rfl, Nat.le_refl _, Nat.le_refl _⟩ rfl rfl (Nat.le_of_ble_eq_true rfl) dX11_join_48 (fun H locs X => ?_)
        refine lv_if_ne (tgt := 57) hx hb dX11_join_51 (by decide) (fun c13 => ?_) (fun c13 => ?_)
        · have h := sy_f c13 h
          refine lv_aload_n hx hb dX11_join_57 rfl (lv_at hl 0 rfl) ?_
          refine sy_q10 fx X (sy_OTop_o ht) 2 (by decide) wm_23 (fun _ h9 => h9) rfl (sy_OTop_r2 ht) dX11_join_58 ?_
          refine lv_iload_n hx hb dX11_join_61 rfl (lv_at hl 1 rfl) ?_
          obtain ⟨S14, hS14, h⟩ := sy_b_e h
          refine sy_p9 fx X (sy_OSky_o (sy_OTop_a2 ht)) 10 (by decide) wm_394 (fun _ h9 => h9) rfl (ty := .int) (by decide +kernel) rfl rfl hS14 sy_s9_10 dX11_join_62 (fun H locs X => ?_)
          refine lv_aload_n hx hb dX11_join_65 rfl (lv_at hl 0 rfl) ?_
          refine sy_q10 fx X (sy_OTop_o ht) 2 (by decide) wm_23 (fun _ h9 => h9) rfl (sy_OTop_r2 ht) dX11_join_66 ?_
          obtain ⟨r16, S15, hc17, h⟩ := sy_c_e h
          refine sy_vi (rest := []) fx hA X hl.1 (sy_OSky_o (sy_OTop_a2 ht)) (sy_en9 (sy_OSky_o (sy_OTop_a2 ht)).2) rfl (c_Sky_forceHeld l (sy_OTop_a2 ht) hc17) cv_Sky_forceHeld wm_402 ⟨Nat.le_of_ble_eq_true rfl, Nat.le_of_ble_eq_true rfl, Nat.le_refl _, Nat.le_refl _⟩ rfl rfl (Nat.le_of_ble_eq_true rfl) dX11_join_69 (fun H locs X => ?_)
          exact sy_iret fx X hr hlk h dX11_join_72
        · have h := sy_t c13 h
          refine lv_ldc (v := (-1000000003)) hx hb hown (hts _ wm_478) dX11_join_54 ?_
          exact sy_iret fx X hr hlk h dX11_join_56
  · have h := sy_t c4 h
    refine lv_ldc (v := (-1000000001)) hx hb hown (hts _ wm_441) dX11_join_11 ?_
    exact sy_iret fx X hr hlk h dX11_join_13
def m_Top_judge (S : sy_St) : sy_R := sy_c (m_Sky_copyFrom 50 45 S) fun r2 S1 => sy_c (m_Book_firstWrong 50 S1) fun r5 S4 => some (r5, S4)
theorem cv_Top_judge : sy_cV RX11 yX11_judge cX11_judge 1 (some .int) 0 := ⟨wm_1028, wm_1029, wm_2, wm_1030, by decide +kernel⟩
set_option maxRecDepth 100000 in
set_option maxHeartbeats 40000000 in
theorem c_Top_judge (l : Launch) {E : sy_ET} (ht : sy_OTop E) {S S' : sy_St} {r : Int32} (h : m_Top_judge S = some (r, S')) : sy_MI l yX11_judge cX11_judge 1 (some .int) 4 87 [.ref (sy_ad E 0)] E S r S' := by
  refine sy_MI_of RX11 pn_11 rfl (Nat.le_of_ble_eq_true rfl) (fun p e s m args below meth c A ls fx hr hlk hA X hl => ?_)
  have hx := fx.1
  have hb := fx.2.1
  have hown := fx.2.2.2.1
  have hts := fx.2.2.2.2
  have hl : lv_has ls 1 [(0, .ref (sy_ad E 0))] := hl
  unfold m_Top_judge at h
  refine lv_aload_n hx hb dX11_judge_0 rfl (lv_at hl 0 rfl) ?_
  refine sy_q10 fx X (sy_OTop_o ht) 3 (by decide) wm_24 (fun _ h9 => h9) rfl (sy_OTop_r3 ht) dX11_judge_1 ?_
  refine lv_aload_n hx hb dX11_judge_4 rfl (lv_at hl 0 rfl) ?_
  refine sy_q10 fx X (sy_OTop_o ht) 2 (by decide) wm_23 (fun _ h9 => h9) rfl (sy_OTop_r2 ht) dX11_judge_5 ?_
  obtain ⟨r2, S1, hc3, h⟩ := sy_c_e h
  refine sy_vv (rest := []) fx hA X hl.1 (sy_OSky_o (sy_OTop_a3 ht)) (sy_en9 (sy_OSky_o (sy_OTop_a3 ht)).2) rfl (c_Sky_copyFrom l (sy_OTop_a3 ht) (sy_OTop_a2 ht) hc3) cv_Sky_copyFrom wm_963 ⟨Nat.le_of_ble_eq_true rfl, Nat.le_of_ble_eq_true rfl, Nat.le_refl _, Nat.le_refl _⟩ rfl rfl (Nat.le_of_ble_eq_true rfl) dX11_judge_8 (fun H locs X => ?_)
  refine lv_aload_n hx hb dX11_judge_11 rfl (lv_at hl 0 rfl) ?_
  refine sy_q10 fx X (sy_OTop_o ht) 11 (by decide) wm_49 (fun _ h9 => h9) rfl (sy_OTop_r11 ht) dX11_judge_12 ?_
  refine lv_aload_n hx hb dX11_judge_15 rfl (lv_at hl 0 rfl) ?_
  refine sy_q10 fx X (sy_OTop_o ht) 3 (by decide) wm_24 (fun _ h9 => h9) rfl (sy_OTop_r3 ht) dX11_judge_16 ?_
  obtain ⟨r5, S4, hc6, h⟩ := sy_c_e h
  refine sy_vi (rest := []) fx hA X hl.1 (sy_OBook_o (sy_OTop_a11 ht)) (sy_en0 (sy_OBook_o (sy_OTop_a11 ht)).2) rfl (c_Book_firstWrong l (sy_OTop_a11 ht) (sy_OTop_a3 ht) hc6) cv_Book_firstWrong wm_1031 ⟨Nat.le_of_ble_eq_true rfl, Nat.le_of_ble_eq_true rfl, Nat.le_refl _, Nat.le_refl _⟩ rfl rfl (Nat.le_of_ble_eq_true rfl) dX11_judge_19 (fun H locs X => ?_)
  exact sy_iret fx X hr hlk h dX11_judge_22
def m_Top_keep (p0 : Int32) (S : sy_St) : sy_R := sy_c (m_Top_isImage p0 S) fun r2 S1 => if r2 = 0 then (some ((-1000000001), S1)) else (sy_g (sy_in p0 2) <| sy_c (m_Sky_copyFrom (358 + 5 * p0.toNatClampNeg) 45 S1) fun r7 S6 => sy_g (sy_in p0 2) <| sy_b (sy_up S6 369 p0.toNatClampNeg (S6 0 15)) fun S10 => sy_g (sy_in p0 2) <| sy_b (sy_up S10 368 p0.toNatClampNeg (vp_nar .boolean 1)) fun S12 => sy_c (m_Past_forget S12) fun r14 S13 => some (1, S13))
theorem cv_Top_keep : sy_cV RX11 yX11_keep cX11_keep 2 (some .int) 1 := ⟨wm_1058, wm_1059, wm_2, wm_1060, by decide +kernel⟩
set_option maxRecDepth 100000 in
set_option maxHeartbeats 40000000 in
theorem c_Top_keep (l : Launch) {E : sy_ET} (ht : sy_OTop E) {p0 : Int32} {S S' : sy_St} {r : Int32} (h : m_Top_keep p0 S = some (r, S')) : sy_MI l yX11_keep cX11_keep 2 (some .int) 2 81 [.ref (sy_ad E 0), .int p0] E S r S' := by
  refine sy_MI_of RX11 pn_11 rfl (Nat.le_of_ble_eq_true rfl) (fun p e s m args below meth c A ls fx hr hlk hA X hl => ?_)
  have hx := fx.1
  have hb := fx.2.1
  have hown := fx.2.2.2.1
  have hts := fx.2.2.2.2
  have hl : lv_has ls 2 [(0, .ref (sy_ad E 0)), (1, .int p0)] := hl
  unfold m_Top_keep at h
  refine lv_iload_n hx hb dX11_keep_0 rfl (lv_at hl 1 rfl) ?_
  obtain ⟨r2, S1, hc3, h⟩ := sy_c_e h
  refine sy_si (rest := []) fx hA X hl.1 (c_Top_isImage l hc3) cv_Top_isImage wm_1061 ⟨Nat.le_of_ble_eq_true rfl, Nat.le_of_ble_eq_true rfl, Nat.le_refl _, Nat.le_refl _⟩ rfl rfl (Nat.le_of_ble_eq_true rfl) dX11_keep_1 (fun H locs X => ?_)
  refine lv_if_ne (tgt := 10) hx hb dX11_keep_4 (by decide) (fun c4 => ?_) (fun c4 => ?_)
  · have h := sy_f c4 h
    refine lv_aload_n hx hb dX11_keep_10 rfl (lv_at hl 0 rfl) ?_
    refine sy_q10 fx X (sy_OTop_o ht) 5 (by decide) wm_29 (fun _ h9 => h9) rfl (sy_OTop_r5 ht) dX11_keep_11 ?_
    refine lv_iload_n hx hb dX11_keep_14 rfl (lv_at hl 1 rfl) ?_
    obtain ⟨g5, h⟩ := sy_g_e h
    refine sy_aald fx X (sy_OTop_a5 ht).1 g5 ((sy_OTop_a5 ht).2 _ (sy_in_lt g5)).1 dX11_keep_15 ?_
    refine lv_aload_n hx hb dX11_keep_16 rfl (lv_at hl 0 rfl) ?_
    refine sy_q10 fx X (sy_OTop_o ht) 2 (by decide) wm_23 (fun _ h9 => h9) rfl (sy_OTop_r2 ht) dX11_keep_17 ?_
    obtain ⟨r7, S6, hc8, h⟩ := sy_c_e h
    refine sy_vv (rest := []) fx hA X hl.1 (sy_OSky_o ((sy_OTop_a5 ht).2 _ (sy_in_lt g5)).2) (sy_en9 (sy_OSky_o ((sy_OTop_a5 ht).2 _ (sy_in_lt g5)).2).2) rfl (c_Sky_copyFrom l ((sy_OTop_a5 ht).2 _ (sy_in_lt g5)).2 (sy_OTop_a2 ht) hc8) cv_Sky_copyFrom wm_963 ⟨Nat.le_of_ble_eq_true rfl, Nat.le_of_ble_eq_true rfl, Nat.le_refl _, Nat.le_refl _⟩ rfl rfl (Nat.le_of_ble_eq_true rfl) dX11_keep_20 (fun H locs X => ?_)
    refine lv_aload_n hx hb dX11_keep_23 rfl (lv_at hl 0 rfl) ?_
    refine sy_q10 fx X (sy_OTop_o ht) 7 (by decide) wm_33 (fun _ h9 => h9) rfl (sy_OTop_r7 ht) dX11_keep_24 ?_
    refine lv_iload_n hx hb dX11_keep_27 rfl (lv_at hl 1 rfl) ?_
    refine lv_aload_n hx hb dX11_keep_28 rfl (lv_at hl 0 rfl) ?_
    refine sy_g10 fx X (sy_OTop_o ht) 15 (by decide) wm_59 (fun _ h9 => h9) rfl dX11_keep_29 ?_
    obtain ⟨g9, h⟩ := sy_g_e h
    obtain ⟨S10, hS10, h⟩ := sy_b_e h
    refine sy_iast fx X (sy_OTop_a7 ht) g9 hS10 dX11_keep_32 (fun H locs X => ?_)
    refine lv_aload_n hx hb dX11_keep_33 rfl (lv_at hl 0 rfl) ?_
    refine sy_q10 fx X (sy_OTop_o ht) 6 (by decide) wm_31 (fun _ h9 => h9) rfl (sy_OTop_r6 ht) dX11_keep_34 ?_
    refine lv_iload_n hx hb dX11_keep_37 rfl (lv_at hl 1 rfl) ?_
    refine lv_iconst (v := 1) hx hb dX11_keep_38 (by decide) ?_
    obtain ⟨g11, h⟩ := sy_g_e h
    obtain ⟨S12, hS12, h⟩ := sy_b_e h
    refine sy_zast fx X (sy_OTop_a6 ht) g11 hS12 dX11_keep_39 (fun H locs X => ?_)
    refine lv_aload_n hx hb dX11_keep_40 rfl (lv_at hl 0 rfl) ?_
    refine sy_q10 fx X (sy_OTop_o ht) 4 (by decide) wm_28 (fun _ h9 => h9) rfl (sy_OTop_r4 ht) dX11_keep_41 ?_
    obtain ⟨r14, S13, hc15, h⟩ := sy_c_e h
    refine sy_vv (rest := []) fx hA X hl.1 (sy_OPast_o (sy_OTop_a4 ht)) (sy_en5 (sy_OPast_o (sy_OTop_a4 ht)).2) rfl (c_Past_forget l (sy_OTop_a4 ht) hc15) cv_Past_forget wm_308 ⟨Nat.le_of_ble_eq_true rfl, Nat.le_of_ble_eq_true rfl, Nat.le_refl _, Nat.le_refl _⟩ rfl rfl (Nat.le_of_ble_eq_true rfl) dX11_keep_44 (fun H locs X => ?_)
    refine lv_iconst (v := 1) hx hb dX11_keep_47 (by decide) ?_
    exact sy_iret fx X hr hlk h dX11_keep_48
  · have h := sy_t c4 h
    refine lv_ldc (v := (-1000000001)) hx hb hown (hts _ wm_441) dX11_keep_7 ?_
    exact sy_iret fx X hr hlk h dX11_keep_9
