def m_Model_keep (p0 : Int32) (S : sy_St) : sy_R := sy_c (m_Model_in p0 0 1 S) fun r2 S1 => if r2 = 0 then (some ((-1000000001), S1)) else (sy_c (m_Model_copy 400 31 402 62 0 (31 * p0) S1) fun r6 S5 => sy_g (sy_in p0 2) <| sy_b (sy_up S5 403 p0.toNatClampNeg (vp_nar .boolean 1)) fun S9 => sy_b (sy_up S9 392 26 0) fun S10 => some (1, S10))
theorem cv_Model_keep : sy_cV RX12 yX12_keep cX12_keep 2 (some .int) 1 := ⟨wm_1065, wm_1066, wm_5, wm_1067, by decide +kernel⟩
set_option maxRecDepth 100000 in
set_option maxHeartbeats 40000000 in
theorem c_Model_keep (l : Launch) {E : sy_ET} (ht : sy_OModel E) {p0 : Int32} {S S' : sy_St} {r : Int32} (h : m_Model_keep p0 S = some (r, S')) : sy_MI l yX12_keep cX12_keep 2 (some .int) 1 24 [.ref (sy_ad E 392), .int p0] E S r S' := by
  refine sy_MI_of RX12 pn_12 rfl (Nat.le_of_ble_eq_true rfl) (fun p e s m args below meth c A ls fx hr hlk hA X hl => ?_)
  have hx := fx.1
  have hb := fx.2.1
  have hown := fx.2.2.2.1
  have hts := fx.2.2.2.2
  have hl : lv_has ls 2 [(0, .ref (sy_ad E 392)), (1, .int p0)] := hl
  unfold m_Model_keep at h
  refine lv_iload_n hx hb dX12_keep_0 rfl (lv_at hl 1 rfl) ?_
  refine lv_iconst (v := 0) hx hb dX12_keep_1 (by decide) ?_
  refine lv_iconst (v := 1) hx hb dX12_keep_2 (by decide) ?_
  obtain ⟨r2, S1, hc3, h⟩ := sy_c_e h
  refine sy_si (rest := []) fx hA X hl.1 (c_Model_in l hc3) cv_Model_in wm_211 ⟨Nat.le_of_ble_eq_true rfl, Nat.le_of_ble_eq_true rfl, Nat.le_refl _, Nat.le_refl _⟩ rfl rfl (Nat.le_of_ble_eq_true rfl) dX12_keep_3 (fun H locs X => ?_)
  refine lv_if_ne (tgt := 12) hx hb dX12_keep_6 (by decide) (fun c4 => ?_) (fun c4 => ?_)
  · have h := sy_f c4 h
    refine lv_aload_n hx hb dX12_keep_12 rfl (lv_at hl 0 rfl) ?_
    refine sy_q11 fx X (sy_OModel_o ht) 22 (by decide) wm_174 (fun _ h9 => h9) rfl (sy_OModel_r22 ht) dX12_keep_13 ?_
    refine lv_iconst (v := 0) hx hb dX12_keep_16 (by decide) ?_
    refine lv_aload_n hx hb dX12_keep_17 rfl (lv_at hl 0 rfl) ?_
    refine sy_q11 fx X (sy_OModel_o ht) 24 (by decide) wm_176 (fun _ h9 => h9) rfl (sy_OModel_r24 ht) dX12_keep_18 ?_
    refine lv_bipush (v := 31) hx hb dX12_keep_21 (by decide) ?_
    refine lv_iload_n hx hb dX12_keep_23 rfl (lv_at hl 1 rfl) ?_
    refine lv_imul hx hb dX12_keep_24 ?_
    obtain ⟨r6, S5, hc7, h⟩ := sy_c_e h
    refine sy_sv (rest := []) fx hA X hl.1 (c_Model_copy l (sy_OModel_a22 ht) (sy_OModel_a24 ht) hc7) cv_Model_copy wm_539 ⟨Nat.le_of_ble_eq_true rfl, Nat.le_of_ble_eq_true rfl, Nat.le_refl _, Nat.le_refl _⟩ rfl rfl (Nat.le_of_ble_eq_true rfl) dX12_keep_25 (fun H locs X => ?_)
    refine lv_aload_n hx hb dX12_keep_28 rfl (lv_at hl 0 rfl) ?_
    refine sy_q11 fx X (sy_OModel_o ht) 25 (by decide) wm_177 (fun _ h9 => h9) rfl (sy_OModel_r25 ht) dX12_keep_29 ?_
    refine lv_iload_n hx hb dX12_keep_32 rfl (lv_at hl 1 rfl) ?_
    refine lv_iconst (v := 1) hx hb dX12_keep_33 (by decide) ?_
    obtain ⟨g8, h⟩ := sy_g_e h
    obtain ⟨S9, hS9, h⟩ := sy_b_e h
    refine sy_zast fx X (sy_OModel_a25 ht) g8 hS9 dX12_keep_34 (fun H locs X => ?_)
    refine lv_aload_n hx hb dX12_keep_35 rfl (lv_at hl 0 rfl) ?_
    refine lv_iconst (v := 0) hx hb dX12_keep_36 (by decide) ?_
    obtain ⟨S10, hS10, h⟩ := sy_b_e h
    refine sy_p11 fx X (sy_OModel_o ht) 26 (by decide) wm_189 (fun _ h9 => h9) rfl (ty := .int) (by decide +kernel) rfl rfl hS10 sy_s11_26 dX12_keep_37 (fun H locs X => ?_)
    refine lv_iconst (v := 1) hx hb dX12_keep_40 (by decide) ?_
    exact sy_iret fx X hr hlk h dX12_keep_41
  · have h := sy_t c4 h
    refine lv_ldc (v := (-1000000001)) hx hb hown (hts _ wm_457) dX12_keep_9 ?_
    exact sy_iret fx X hr hlk h dX12_keep_11
def m_Model_lay_B7 (kk7 : Int32 → Int32 → sy_St → sy_R) (y3 : Int32) (y4 : Int32) (S : sy_St) : sy_R := if y4 < 0 then (some (0, S)) else (sy_b (S 392 19 : Int32) fun x3 => sy_g (¬ x3 = 0) <| sy_g (sy_in y4 5) <| sy_b (sy_up S 407 y4.toNatClampNeg (y3 - y3 / x3 * x3)) fun S6 => sy_b (S6 392 19 : Int32) fun x7 => sy_g (¬ x7 = 0) <| sy_b (y3 / x7 : Int32) fun x9 => sy_b (y4 + (-1) : Int32) fun x10 => kk7 x9 x10 S6)
def m_Model_lay (p0 : Int32) (p1 : Int32) (S : sy_St) : sy_R := sy_b (p1 - 1 : Int32) fun x1 => sy_fix (fun _ _ _ => none) (m_Model_lay_B7) sy_F p0 x1 S
theorem cv_Model_lay : sy_cV RX12 yX12_lay cX12_lay 5 none 2 := ⟨wm_771, wm_772, wm_5, wm_773, by decide +kernel⟩
set_option maxRecDepth 100000 in
set_option maxHeartbeats 40000000 in
theorem c_Model_lay (l : Launch) {E : sy_ET} (ht : sy_OModel E) {p0 : Int32} {p1 : Int32} {S S' : sy_St} {r : Int32} (h : m_Model_lay p0 p1 S = some (r, S')) : sy_MV l yX12_lay cX12_lay 5 0 0 [.ref (sy_ad E 392), .int p0, .int p1] E S S' := by
  refine sy_MV_of RX12 pn_12 rfl (Nat.le_of_ble_eq_true rfl) (fun p e s m args below meth c A ls fx hr hlk hA X hl => ?_)
  have hx := fx.1
  have hb := fx.2.1
  have hown := fx.2.2.2.1
  have hts := fx.2.2.2.2
  have hl : lv_has ls 5 [(0, .ref (sy_ad E 392)), (1, .int p0), (2, .int p1)] := hl
  have L_7 : ∀ (n7 : Nat) (y3 y4 : Int32) (S : sy_St) (H : Heap) (locs : List Loc) (ls : Array Slot), sy_Wd E A s S H locs → lv_has ls 5 [(0, .ref (sy_ad E 392)), (3, .int y3), (4, .int y4)] → sy_fix (fun _ _ _ => none) (m_Model_lay_B7) n7 y3 y4 S = some (r, S') → W p l e (sy_rm 0 0) s m args below meth c H locs 0 0 (MQ below (sy_Qv E A S') args s 0 0 A) (F0 m 7 ls []) := by
    intro n7
    induction n7 with
    | zero => intro y3 y4 S H locs ls X hl h; have h9 : (none : sy_R) = some (r, S') := h; cases h9
    | succ n7 ih7 =>
      intro y3 y4 S H locs ls X hl h
      have h : m_Model_lay_B7 (sy_fix (fun _ _ _ => none) (m_Model_lay_B7) n7) y3 y4 S = some (r, S') := h
      unfold m_Model_lay_B7 at h
      refine lv_iload hx hb dX12_lay_7 (lv_at hl 2 rfl) ?_
      refine lv_if_lt (tgt := 38) hx hb dX12_lay_9 (by decide) (fun c2 => ?_) (fun c2 => ?_)
      · have h := sy_t c2 h
        exact sy_vret fx X hr hlk h dX12_lay_38
      · have h := sy_f c2 h
        refine lv_aload_n hx hb dX12_lay_12 rfl (lv_at hl 0 rfl) ?_
        refine sy_q11 fx X (sy_OModel_o ht) 32 (by decide) wm_181 (fun _ h9 => h9) rfl (sy_OModel_r32 ht) dX12_lay_13 ?_
        refine lv_iload hx hb dX12_lay_16 (lv_at hl 2 rfl) ?_
        refine lv_iload_n hx hb dX12_lay_18 rfl (lv_at hl 1 rfl) ?_
        refine lv_aload_n hx hb dX12_lay_19 rfl (lv_at hl 0 rfl) ?_
        refine sy_g11 fx X (sy_OModel_o ht) 19 (by decide) wm_188 (fun _ h9 => h9) rfl dX12_lay_20 ?_
        obtain ⟨x3, hx3, h⟩ := sy_b_e h
        refine sy_top hx3 ?_
        obtain ⟨g4, h⟩ := sy_g_e h
        refine lv_irem hx hb dX12_lay_23 g4 ?_
        obtain ⟨g5, h⟩ := sy_g_e h
        obtain ⟨S6, hS6, h⟩ := sy_b_e h
        refine sy_iast fx X (sy_OModel_a32 ht) g5 hS6 dX12_lay_24 (fun H locs X => ?_)
        refine lv_iload_n hx hb dX12_lay_25 rfl (lv_at hl 1 rfl) ?_
        refine lv_aload_n hx hb dX12_lay_26 rfl (lv_at hl 0 rfl) ?_
        refine sy_g11 fx X (sy_OModel_o ht) 19 (by decide) wm_188 (fun _ h9 => h9) rfl dX12_lay_27 ?_
        obtain ⟨x7, hx7, h⟩ := sy_b_e h
        refine sy_top hx7 ?_
        obtain ⟨g8, h⟩ := sy_g_e h
        refine lv_idiv hx hb dX12_lay_30 g8 ?_
        obtain ⟨x9, hx9, h⟩ := sy_b_e h
        refine sy_top hx9 ?_
        refine lv_istore_n (lv' := [(3, .int x9), (0, .ref (sy_ad E 392)), (4, .int y4)]) hx hb dX12_lay_31 rfl hl (by decide) rfl (fun ls hl => ?_)
        obtain ⟨x10, hx10, h⟩ := sy_b_e h
        refine lv_iinc (v := x10) (lv' := [(4, .int x10), (3, .int x9), (0, .ref (sy_ad E 392))]) hx hb dX12_lay_32 hl (k := 2) rfl (by rw [hx10]; rfl) (by decide) rfl (fun ls hl => ?_)
        refine lv_goto (tgt := 7) hx hb dX12_lay_35 (by decide) ?_
        exact ih7 x9 x10 S6 _ _ _ X (lv_sub hl [2, 1, 0] rfl) h
  unfold m_Model_lay at h
  refine lv_iload_n hx hb dX12_lay_0 rfl (lv_at hl 1 rfl) ?_
  refine lv_istore_n (lv' := [(3, .int p0), (0, .ref (sy_ad E 392)), (1, .int p0), (2, .int p1)]) hx hb dX12_lay_1 rfl hl (by decide) rfl (fun ls hl => ?_)
  refine lv_iload_n hx hb dX12_lay_2 rfl (lv_at hl 3 rfl) ?_
  refine lv_iconst (v := 1) hx hb dX12_lay_3 (by decide) ?_
  refine lv_isub hx hb dX12_lay_4 ?_
  obtain ⟨x1, hx1, h⟩ := sy_b_e h
  refine sy_top hx1 ?_
  refine lv_istore (lv' := [(4, .int x1), (3, .int p0), (0, .ref (sy_ad E 392)), (1, .int p0), (2, .int p1)]) hx hb dX12_lay_5 hl (by decide) rfl (fun ls hl => ?_)
  exact L_7 sy_F p0 x1 S _ _ _ X (lv_sub hl [2, 1, 0] rfl) h
def m_Model_mostOf_B18 (kk4 : Int32 → Int32 → Int32 → sy_St → sy_R) (kk18 : Int32 → Int32 → Int32 → Int32 → Int32 → sy_St → sy_R) (y1 : Int32) (y2 : Int32) (y3 : Int32) (y4 : Int32) (y5 : Int32) (S : sy_St) : sy_R := if y1 ≤ y5 then (if y4 ≤ y2 then (sy_b (y3 + 1 : Int32) fun x4 => kk4 y1 y2 x4 S) else (sy_b (y3 + 1 : Int32) fun x5 => kk4 y1 y4 x5 S)) else (sy_g (sy_in y5 5) <| if (S 407 y5.toNatClampNeg) = y3 then (sy_b (y4 + 1 : Int32) fun x10 => sy_b (y5 + 1 : Int32) fun x11 => kk18 y1 y2 y3 x10 x11 S) else (sy_b (y4 + 0 : Int32) fun x8 => sy_b (y5 + 1 : Int32) fun x9 => kk18 y1 y2 y3 x8 x9 S))
def m_Model_mostOf_B4 (kk4 : Int32 → Int32 → Int32 → sy_St → sy_R) (y1 : Int32) (y2 : Int32) (y3 : Int32) (S : sy_St) : sy_R := if (S 392 19) ≤ y3 then (some (y2, S)) else (sy_fix (fun _ _ _ _ _ _ => none) (m_Model_mostOf_B18 kk4) sy_F y1 y2 y3 0 0 S)
def m_Model_mostOf (p0 : Int32) (S : sy_St) : sy_R := sy_fix (fun _ _ _ _ => none) (m_Model_mostOf_B4) sy_F p0 0 0 S
theorem cv_Model_mostOf : sy_cV RX12 yX12_mostOf cX12_mostOf 6 (some .int) 1 := ⟨wm_775, wm_776, wm_5, wm_777, by decide +kernel⟩
set_option maxRecDepth 100000 in
set_option maxHeartbeats 40000000 in
theorem c_Model_mostOf (l : Launch) {E : sy_ET} (ht : sy_OModel E) {p0 : Int32} {S S' : sy_St} {r : Int32} (h : m_Model_mostOf p0 S = some (r, S')) : sy_MI l yX12_mostOf cX12_mostOf 6 (some .int) 0 0 [.ref (sy_ad E 392), .int p0] E S r S' := by
  refine sy_MI_of RX12 pn_12 rfl (Nat.le_of_ble_eq_true rfl) (fun p e s m args below meth c A ls fx hr hlk hA X hl => ?_)
  have hx := fx.1
  have hb := fx.2.1
  have hown := fx.2.2.2.1
  have hts := fx.2.2.2.2
  have hl : lv_has ls 6 [(0, .ref (sy_ad E 392)), (1, .int p0)] := hl
  have L_4 : ∀ (n4 : Nat) (y1 y2 y3 : Int32) (S : sy_St) (H : Heap) (locs : List Loc) (ls : Array Slot), sy_Wd E A s S H locs → lv_has ls 6 [(0, .ref (sy_ad E 392)), (1, .int y1), (2, .int y2), (3, .int y3)] → sy_fix (fun _ _ _ _ => none) (m_Model_mostOf_B4) n4 y1 y2 y3 S = some (r, S') → W p l e (sy_rm 0 0) s m args below meth c H locs 0 0 (MQ below (sy_Qi E A r S') args s 0 0 A) (F0 m 4 ls []) := by
    intro n4
    induction n4 with
    | zero => intro y1 y2 y3 S H locs ls X hl h; have h9 : (none : sy_R) = some (r, S') := h; cases h9
    | succ n4 ih4 =>
      have L_18 : ∀ (n18 : Nat) (y1 y2 y3 y4 y5 : Int32) (S : sy_St) (H : Heap) (locs : List Loc) (ls : Array Slot), sy_Wd E A s S H locs → lv_has ls 6 [(0, .ref (sy_ad E 392)), (1, .int y1), (2, .int y2), (3, .int y3), (4, .int y4), (5, .int y5)] → sy_fix (fun _ _ _ _ _ _ => none) (m_Model_mostOf_B18 (sy_fix (fun _ _ _ _ => none) (m_Model_mostOf_B4) n4)) n18 y1 y2 y3 y4 y5 S = some (r, S') → W p l e (sy_rm 0 0) s m args below meth c H locs 0 0 (MQ below (sy_Qi E A r S') args s 0 0 A) (F0 m 18 ls []) := by
        intro n18
        induction n18 with
        | zero => intro y1 y2 y3 y4 y5 S H locs ls X hl h; have h9 : (none : sy_R) = some (r, S') := h; cases h9
        | succ n18 ih18 =>
          intro y1 y2 y3 y4 y5 S H locs ls X hl h
          have h : m_Model_mostOf_B18 (sy_fix (fun _ _ _ _ => none) (m_Model_mostOf_B4) n4) (sy_fix (fun _ _ _ _ _ _ => none) (m_Model_mostOf_B18 (sy_fix (fun _ _ _ _ => none) (m_Model_mostOf_B4) n4)) n18) y1 y2 y3 y4 y5 S = some (r, S') := h
          unfold m_Model_mostOf_B18 at h
          refine lv_iload hx hb dX12_mostOf_18 (lv_at hl 5 rfl) ?_
          refine lv_iload_n hx hb dX12_mostOf_20 rfl (lv_at hl 1 rfl) ?_
          refine lv_icmp_ge (tgt := 51) hx hb dX12_mostOf_21 (by decide) (fun c2 => ?_) (fun c2 => ?_)
          · have h := sy_t c2 h
            refine lv_iload hx hb dX12_mostOf_51 (lv_at hl 4 rfl) ?_
            refine lv_iload_n hx hb dX12_mostOf_53 rfl (lv_at hl 2 rfl) ?_
            refine lv_icmp_le (tgt := 62) hx hb dX12_mostOf_54 (by decide) (fun c3 => ?_) (fun c3 => ?_)
            · have h := sy_t c3 h
              refine lv_iload_n hx hb dX12_mostOf_62 rfl (lv_at hl 2 rfl) ?_
              refine lv_istore_n (lv' := [(2, .int y2), (0, .ref (sy_ad E 392)), (1, .int y1), (3, .int y3), (4, .int y4), (5, .int y5)]) hx hb dX12_mostOf_63 rfl hl (by decide) rfl (fun ls hl => ?_)
              obtain ⟨x4, hx4, h⟩ := sy_b_e h
              refine lv_iinc (v := x4) (lv' := [(3, .int x4), (2, .int y2), (0, .ref (sy_ad E 392)), (1, .int y1), (4, .int y4), (5, .int y5)]) hx hb dX12_mostOf_64 hl (k := 3) rfl (by rw [hx4]; rfl) (by decide) rfl (fun ls hl => ?_)
              refine lv_goto (tgt := 4) hx hb dX12_mostOf_67 (by decide) ?_
              exact ih4 y1 y2 x4 S _ _ _ X (lv_sub hl [2, 3, 1, 0] rfl) h
            · have h := sy_f c3 h
              refine lv_iload hx hb dX12_mostOf_57 (lv_at hl 4 rfl) ?_
              refine lv_goto (tgt := 63) hx hb dX12_mostOf_59 (by decide) ?_
              refine lv_istore_n (lv' := [(2, .int y4), (0, .ref (sy_ad E 392)), (1, .int y1), (3, .int y3), (4, .int y4), (5, .int y5)]) hx hb dX12_mostOf_63 rfl hl (by decide) rfl (fun ls hl => ?_)
              obtain ⟨x5, hx5, h⟩ := sy_b_e h
              refine lv_iinc (v := x5) (lv' := [(3, .int x5), (2, .int y4), (0, .ref (sy_ad E 392)), (1, .int y1), (4, .int y4), (5, .int y5)]) hx hb dX12_mostOf_64 hl (k := 3) rfl (by rw [hx5]; rfl) (by decide) rfl (fun ls hl => ?_)
              refine lv_goto (tgt := 4) hx hb dX12_mostOf_67 (by decide) ?_
              exact ih4 y1 y4 x5 S _ _ _ X (lv_sub hl [2, 3, 1, 0] rfl) h
          · have h := sy_f c2 h
            refine lv_iload hx hb dX12_mostOf_24 (lv_at hl 4 rfl) ?_
            refine lv_aload_n hx hb dX12_mostOf_26 rfl (lv_at hl 0 rfl) ?_
            refine sy_q11 fx X (sy_OModel_o ht) 32 (by decide) wm_181 (fun _ h9 => h9) rfl (sy_OModel_r32 ht) dX12_mostOf_27 ?_
            refine lv_iload hx hb dX12_mostOf_30 (lv_at hl 5 rfl) ?_
            obtain ⟨g6, h⟩ := sy_g_e h
            refine sy_iald fx X (sy_OModel_a32 ht) g6 dX12_mostOf_32 ?_
            refine lv_iload_n hx hb dX12_mostOf_33 rfl (lv_at hl 3 rfl) ?_
            refine lv_icmp_ne (tgt := 41) hx hb dX12_mostOf_34 (by decide) (fun c7 => ?_) (fun c7 => ?_)
            · have h := sy_f c7 h
              refine lv_iconst (v := 0) hx hb dX12_mostOf_41 (by decide) ?_
              refine lv_iadd hx hb dX12_mostOf_42 ?_
              obtain ⟨x8, hx8, h⟩ := sy_b_e h
              refine sy_top hx8 ?_
              refine lv_istore (lv' := [(4, .int x8), (0, .ref (sy_ad E 392)), (1, .int y1), (2, .int y2), (3, .int y3), (5, .int y5)]) hx hb dX12_mostOf_43 hl (by decide) rfl (fun ls hl => ?_)
              obtain ⟨x9, hx9, h⟩ := sy_b_e h
              refine lv_iinc (v := x9) (lv' := [(5, .int x9), (4, .int x8), (0, .ref (sy_ad E 392)), (1, .int y1), (2, .int y2), (3, .int y3)]) hx hb dX12_mostOf_45 hl (k := 5) rfl (by rw [hx9]; rfl) (by decide) rfl (fun ls hl => ?_)
              refine lv_goto (tgt := 18) hx hb dX12_mostOf_48 (by decide) ?_
              exact ih18 y1 y2 y3 x8 x9 S _ _ _ X (lv_sub hl [2, 3, 4, 5, 1, 0] rfl) h
            · have h := sy_t c7 h
              refine lv_iconst (v := 1) hx hb dX12_mostOf_37 (by decide) ?_
              refine lv_goto (tgt := 42) hx hb dX12_mostOf_38 (by decide) ?_
              refine lv_iadd hx hb dX12_mostOf_42 ?_
              obtain ⟨x10, hx10, h⟩ := sy_b_e h
              refine sy_top hx10 ?_
              refine lv_istore (lv' := [(4, .int x10), (0, .ref (sy_ad E 392)), (1, .int y1), (2, .int y2), (3, .int y3), (5, .int y5)]) hx hb dX12_mostOf_43 hl (by decide) rfl (fun ls hl => ?_)
              obtain ⟨x11, hx11, h⟩ := sy_b_e h
              refine lv_iinc (v := x11) (lv' := [(5, .int x11), (4, .int x10), (0, .ref (sy_ad E 392)), (1, .int y1), (2, .int y2), (3, .int y3)]) hx hb dX12_mostOf_45 hl (k := 5) rfl (by rw [hx11]; rfl) (by decide) rfl (fun ls hl => ?_)
              refine lv_goto (tgt := 18) hx hb dX12_mostOf_48 (by decide) ?_
              exact ih18 y1 y2 y3 x10 x11 S _ _ _ X (lv_sub hl [2, 3, 4, 5, 1, 0] rfl) h
      intro y1 y2 y3 S H locs ls X hl h
      have h : m_Model_mostOf_B4 (sy_fix (fun _ _ _ _ => none) (m_Model_mostOf_B4) n4) y1 y2 y3 S = some (r, S') := h
      unfold m_Model_mostOf_B4 at h
      refine lv_iload_n hx hb dX12_mostOf_4 rfl (lv_at hl 3 rfl) ?_
      refine lv_aload_n hx hb dX12_mostOf_5 rfl (lv_at hl 0 rfl) ?_
      refine sy_g11 fx X (sy_OModel_o ht) 19 (by decide) wm_188 (fun _ h9 => h9) rfl dX12_mostOf_6 ?_
      refine lv_icmp_ge (tgt := 70) hx hb dX12_mostOf_9 (by decide) (fun c1 => ?_) (fun c1 => ?_)
      · have h := sy_t c1 h
        refine lv_iload_n hx hb dX12_mostOf_70 rfl (lv_at hl 2 rfl) ?_
        exact sy_iret fx X hr hlk h dX12_mostOf_71
      · have h := sy_f c1 h
        refine lv_iconst (v := 0) hx hb dX12_mostOf_12 (by decide) ?_
        refine lv_istore (lv' := [(4, .int 0), (0, .ref (sy_ad E 392)), (1, .int y1), (2, .int y2), (3, .int y3)]) hx hb dX12_mostOf_13 hl (by decide) rfl (fun ls hl => ?_)
        refine lv_iconst (v := 0) hx hb dX12_mostOf_15 (by decide) ?_
        refine lv_istore (lv' := [(5, .int 0), (4, .int 0), (0, .ref (sy_ad E 392)), (1, .int y1), (2, .int y2), (3, .int y3)]) hx hb dX12_mostOf_16 hl (by decide) rfl (fun ls hl => ?_)
        exact L_18 sy_F y1 y2 y3 0 0 S _ _ _ X (lv_sub hl [2, 3, 4, 5, 1, 0] rfl) h
  unfold m_Model_mostOf at h
  refine lv_iconst (v := 0) hx hb dX12_mostOf_0 (by decide) ?_
  refine lv_istore_n (lv' := [(2, .int 0), (0, .ref (sy_ad E 392)), (1, .int p0)]) hx hb dX12_mostOf_1 rfl hl (by decide) rfl (fun ls hl => ?_)
  refine lv_iconst (v := 0) hx hb dX12_mostOf_2 (by decide) ?_
  refine lv_istore_n (lv' := [(3, .int 0), (2, .int 0), (0, .ref (sy_ad E 392)), (1, .int p0)]) hx hb dX12_mostOf_3 rfl hl (by decide) rfl (fun ls hl => ?_)
  exact L_4 sy_F p0 0 0 S _ _ _ X (lv_sub hl [2, 3, 1, 0] rfl) h
def m_Model_offer (p0 : Int32) (p1 : Int32) (S : sy_St) : sy_R := sy_c (m_Model_isOne p0 S) fun r2 S1 => if r2 = 0 then (some ((-1000000001), S1)) else (sy_c (m_Model_in p1 0 2 S1) fun r6 S5 => if r6 = 0 then (some ((-1000000002), S5)) else (sy_c (m_Model_holds 400 31 p0 S5) fun r10 S9 => if r10 = 0 then (sy_c (m_Model_offers 400 31 p0 p1 S9) fun r14 S13 => if r14 = 0 then (some (0, S13)) else (some (1, S13))) else (some ((-1000000003), S9))))
theorem cv_Model_offer : sy_cV RX12 yX12_offer cX12_offer 3 (some .int) 2 := ⟨wm_567, wm_568, wm_5, wm_569, by decide +kernel⟩
set_option maxRecDepth 100000 in
set_option maxHeartbeats 40000000 in
theorem c_Model_offer (l : Launch) {E : sy_ET} (ht : sy_OModel E) {p0 : Int32} {p1 : Int32} {S S' : sy_St} {r : Int32} (h : m_Model_offer p0 p1 S = some (r, S')) : sy_MI l yX12_offer cX12_offer 3 (some .int) 3 67 [.ref (sy_ad E 392), .int p0, .int p1] E S r S' := by
  refine sy_MI_of RX12 pn_12 rfl (Nat.le_of_ble_eq_true rfl) (fun p e s m args below meth c A ls fx hr hlk hA X hl => ?_)
  have hx := fx.1
  have hb := fx.2.1
  have hown := fx.2.2.2.1
  have hts := fx.2.2.2.2
  have hl : lv_has ls 3 [(0, .ref (sy_ad E 392)), (1, .int p0), (2, .int p1)] := hl
  unfold m_Model_offer at h
  refine lv_aload_n hx hb dX12_offer_0 rfl (lv_at hl 0 rfl) ?_
  refine lv_iload_n hx hb dX12_offer_1 rfl (lv_at hl 1 rfl) ?_
  obtain ⟨r2, S1, hc3, h⟩ := sy_c_e h
  refine sy_vi (rest := []) fx hA X hl.1 (sy_OModel_o ht) (sy_en11 (sy_OModel_o ht).2) rfl (c_Model_isOne l ht hc3) cv_Model_isOne wm_458 ⟨Nat.le_of_ble_eq_true rfl, Nat.le_of_ble_eq_true rfl, Nat.le_refl _, Nat.le_refl _⟩ rfl rfl (Nat.le_of_ble_eq_true rfl) dX12_offer_2 (fun H locs X => ?_)
  refine lv_if_ne (tgt := 11) hx hb dX12_offer_5 (by decide) (fun c4 => ?_) (fun c4 => ?_)
  · have h := sy_f c4 h
    refine lv_iload_n hx hb dX12_offer_11 rfl (lv_at hl 2 rfl) ?_
    refine lv_iconst (v := 0) hx hb dX12_offer_12 (by decide) ?_
    refine lv_iconst (v := 2) hx hb dX12_offer_13 (by decide) ?_
    obtain ⟨r6, S5, hc7, h⟩ := sy_c_e h
    refine sy_si (rest := []) fx hA X hl.1 (c_Model_in l hc7) cv_Model_in wm_211 ⟨Nat.le_of_ble_eq_true rfl, Nat.le_of_ble_eq_true rfl, Nat.le_refl _, Nat.le_refl _⟩ rfl rfl (Nat.le_of_ble_eq_true rfl) dX12_offer_14 (fun H locs X => ?_)
    refine lv_if_ne (tgt := 23) hx hb dX12_offer_17 (by decide) (fun c8 => ?_) (fun c8 => ?_)
    · have h := sy_f c8 h
      refine lv_aload_n hx hb dX12_offer_23 rfl (lv_at hl 0 rfl) ?_
      refine sy_q11 fx X (sy_OModel_o ht) 22 (by decide) wm_174 (fun _ h9 => h9) rfl (sy_OModel_r22 ht) dX12_offer_24 ?_
      refine lv_iload_n hx hb dX12_offer_27 rfl (lv_at hl 1 rfl) ?_
      obtain ⟨r10, S9, hc11, h⟩ := sy_c_e h
      refine sy_si (rest := []) fx hA X hl.1 (c_Model_holds l (sy_OModel_a22 ht) hc11) cv_Model_holds wm_570 ⟨Nat.le_of_ble_eq_true rfl, Nat.le_of_ble_eq_true rfl, Nat.le_refl _, Nat.le_refl _⟩ rfl rfl (Nat.le_of_ble_eq_true rfl) dX12_offer_28 (fun H locs X => ?_)
      refine lv_if_eq (tgt := 37) hx hb dX12_offer_31 (by decide) (fun c12 => ?_) (fun c12 => ?_)
      · have h := sy_t c12 h
        refine lv_aload_n hx hb dX12_offer_37 rfl (lv_at hl 0 rfl) ?_
        refine lv_aload_n hx hb dX12_offer_38 rfl (lv_at hl 0 rfl) ?_
        refine sy_q11 fx X (sy_OModel_o ht) 22 (by decide) wm_174 (fun _ h9 => h9) rfl (sy_OModel_r22 ht) dX12_offer_39 ?_
        refine lv_iload_n hx hb dX12_offer_42 rfl (lv_at hl 1 rfl) ?_
        refine lv_iload_n hx hb dX12_offer_43 rfl (lv_at hl 2 rfl) ?_
        obtain ⟨r14, S13, hc15, h⟩ := sy_c_e h
        refine sy_vi (rest := []) fx hA X hl.1 (sy_OModel_o ht) (sy_en11 (sy_OModel_o ht).2) rfl (c_Model_offers l ht (sy_OModel_a22 ht) hc15) cv_Model_offers wm_573 ⟨Nat.le_of_ble_eq_true rfl, Nat.le_of_ble_eq_true rfl, Nat.le_refl _, Nat.le_refl _⟩ rfl rfl (Nat.le_of_ble_eq_true rfl) dX12_offer_44 (fun H locs X => ?_)
        refine lv_if_eq (tgt := 54) hx hb dX12_offer_47 (by decide) (fun c16 => ?_) (fun c16 => ?_)
        · have h := sy_t c16 h
          refine lv_iconst (v := 0) hx hb dX12_offer_54 (by decide) ?_
          exact sy_iret fx X hr hlk h dX12_offer_55
        · have h := sy_f c16 h
          refine lv_iconst (v := 1) hx hb dX12_offer_50 (by decide) ?_
          refine lv_goto (tgt := 55) hx hb dX12_offer_51 (by decide) ?_
          exact sy_iret fx X hr hlk h dX12_offer_55
      · have h := sy_f c12 h
        refine lv_ldc (v := (-1000000003)) hx hb hown (hts _ wm_530) dX12_offer_34 ?_
        exact sy_iret fx X hr hlk h dX12_offer_36
    · have h := sy_t c8 h
      refine lv_ldc (v := (-1000000002)) hx hb hown (hts _ wm_208) dX12_offer_20 ?_
      exact sy_iret fx X hr hlk h dX12_offer_22
  · have h := sy_t c4 h
    refine lv_ldc (v := (-1000000001)) hx hb hown (hts _ wm_457) dX12_offer_8 ?_
    exact sy_iret fx X hr hlk h dX12_offer_10
def m_Model_owesOf_B4 (kk4 : Int32 → Int32 → Int32 → sy_St → sy_R) (y1 : Int32) (y2 : Int32) (y3 : Int32) (S : sy_St) : sy_R := if (S 392 19) ≤ y3 then (sy_b (13 + y1 : Int32) fun x2 => sy_g (sy_in x2 31) <| some (((S 392 19) * (S 400 x2.toNatClampNeg)) - y2, S)) else (sy_b (13 + y3 : Int32) fun x4 => sy_g (sy_in x4 31) <| sy_b (y2 + (S 400 x4.toNatClampNeg) : Int32) fun x6 => sy_b (y3 + 1 : Int32) fun x7 => kk4 y1 x6 x7 S)
def m_Model_owesOf (p0 : Int32) (S : sy_St) : sy_R := sy_fix (fun _ _ _ _ => none) (m_Model_owesOf_B4) sy_F p0 0 0 S
theorem cv_Model_owesOf : sy_cV RX12 yX12_owesOf cX12_owesOf 4 (some .int) 1 := ⟨wm_871, wm_872, wm_5, wm_873, by decide +kernel⟩
set_option maxRecDepth 100000 in
set_option maxHeartbeats 40000000 in
theorem c_Model_owesOf (l : Launch) {E : sy_ET} (ht : sy_OModel E) {p0 : Int32} {S S' : sy_St} {r : Int32} (h : m_Model_owesOf p0 S = some (r, S')) : sy_MI l yX12_owesOf cX12_owesOf 4 (some .int) 0 0 [.ref (sy_ad E 392), .int p0] E S r S' := by
  refine sy_MI_of RX12 pn_12 rfl (Nat.le_of_ble_eq_true rfl) (fun p e s m args below meth c A ls fx hr hlk hA X hl => ?_)
  have hx := fx.1
  have hb := fx.2.1
  have hown := fx.2.2.2.1
  have hts := fx.2.2.2.2
  have hl : lv_has ls 4 [(0, .ref (sy_ad E 392)), (1, .int p0)] := hl
  have L_4 : ∀ (n4 : Nat) (y1 y2 y3 : Int32) (S : sy_St) (H : Heap) (locs : List Loc) (ls : Array Slot), sy_Wd E A s S H locs → lv_has ls 4 [(0, .ref (sy_ad E 392)), (1, .int y1), (2, .int y2), (3, .int y3)] → sy_fix (fun _ _ _ _ => none) (m_Model_owesOf_B4) n4 y1 y2 y3 S = some (r, S') → W p l e (sy_rm 0 0) s m args below meth c H locs 0 0 (MQ below (sy_Qi E A r S') args s 0 0 A) (F0 m 4 ls []) := by
    intro n4
    induction n4 with
    | zero => intro y1 y2 y3 S H locs ls X hl h; have h9 : (none : sy_R) = some (r, S') := h; cases h9
    | succ n4 ih4 =>
      intro y1 y2 y3 S H locs ls X hl h
      have h : m_Model_owesOf_B4 (sy_fix (fun _ _ _ _ => none) (m_Model_owesOf_B4) n4) y1 y2 y3 S = some (r, S') := h
      unfold m_Model_owesOf_B4 at h
      refine lv_iload_n hx hb dX12_owesOf_4 rfl (lv_at hl 3 rfl) ?_
      refine lv_aload_n hx hb dX12_owesOf_5 rfl (lv_at hl 0 rfl) ?_
      refine sy_g11 fx X (sy_OModel_o ht) 19 (by decide) wm_188 (fun _ h9 => h9) rfl dX12_owesOf_6 ?_
      refine lv_icmp_ge (tgt := 30) hx hb dX12_owesOf_9 (by decide) (fun c1 => ?_) (fun c1 => ?_)
      · have h := sy_t c1 h
        refine lv_aload_n hx hb dX12_owesOf_30 rfl (lv_at hl 0 rfl) ?_
        refine sy_g11 fx X (sy_OModel_o ht) 19 (by decide) wm_188 (fun _ h9 => h9) rfl dX12_owesOf_31 ?_
        refine lv_aload_n hx hb dX12_owesOf_34 rfl (lv_at hl 0 rfl) ?_
        refine sy_q11 fx X (sy_OModel_o ht) 22 (by decide) wm_174 (fun _ h9 => h9) rfl (sy_OModel_r22 ht) dX12_owesOf_35 ?_
        refine lv_bipush (v := 13) hx hb dX12_owesOf_38 (by decide) ?_
        refine lv_iload_n hx hb dX12_owesOf_40 rfl (lv_at hl 1 rfl) ?_
        refine lv_iadd hx hb dX12_owesOf_41 ?_
        obtain ⟨x2, hx2, h⟩ := sy_b_e h
        refine sy_top hx2 ?_
        obtain ⟨g3, h⟩ := sy_g_e h
        refine sy_iald fx X (sy_OModel_a22 ht) g3 dX12_owesOf_42 ?_
        refine lv_imul hx hb dX12_owesOf_43 ?_
        refine lv_iload_n hx hb dX12_owesOf_44 rfl (lv_at hl 2 rfl) ?_
        refine lv_isub hx hb dX12_owesOf_45 ?_
        exact sy_iret fx X hr hlk h dX12_owesOf_46
      · have h := sy_f c1 h
        refine lv_iload_n hx hb dX12_owesOf_12 rfl (lv_at hl 2 rfl) ?_
        refine lv_aload_n hx hb dX12_owesOf_13 rfl (lv_at hl 0 rfl) ?_
        refine sy_q11 fx X (sy_OModel_o ht) 22 (by decide) wm_174 (fun _ h9 => h9) rfl (sy_OModel_r22 ht) dX12_owesOf_14 ?_
        refine lv_bipush (v := 13) hx hb dX12_owesOf_17 (by decide) ?_
        refine lv_iload_n hx hb dX12_owesOf_19 rfl (lv_at hl 3 rfl) ?_
        refine lv_iadd hx hb dX12_owesOf_20 ?_
        obtain ⟨x4, hx4, h⟩ := sy_b_e h
        refine sy_top hx4 ?_
        obtain ⟨g5, h⟩ := sy_g_e h
        refine sy_iald fx X (sy_OModel_a22 ht) g5 dX12_owesOf_21 ?_
        refine lv_iadd hx hb dX12_owesOf_22 ?_
        obtain ⟨x6, hx6, h⟩ := sy_b_e h
        refine sy_top hx6 ?_
        refine lv_istore_n (lv' := [(2, .int x6), (0, .ref (sy_ad E 392)), (1, .int y1), (3, .int y3)]) hx hb dX12_owesOf_23 rfl hl (by decide) rfl (fun ls hl => ?_)
        obtain ⟨x7, hx7, h⟩ := sy_b_e h
        refine lv_iinc (v := x7) (lv' := [(3, .int x7), (2, .int x6), (0, .ref (sy_ad E 392)), (1, .int y1)]) hx hb dX12_owesOf_24 hl (k := 3) rfl (by rw [hx7]; rfl) (by decide) rfl (fun ls hl => ?_)
        refine lv_goto (tgt := 4) hx hb dX12_owesOf_27 (by decide) ?_
        exact ih4 y1 x6 x7 S _ _ _ X (lv_sub hl [2, 3, 1, 0] rfl) h
  unfold m_Model_owesOf at h
  refine lv_iconst (v := 0) hx hb dX12_owesOf_0 (by decide) ?_
  refine lv_istore_n (lv' := [(2, .int 0), (0, .ref (sy_ad E 392)), (1, .int p0)]) hx hb dX12_owesOf_1 rfl hl (by decide) rfl (fun ls hl => ?_)
  refine lv_iconst (v := 0) hx hb dX12_owesOf_2 (by decide) ?_
  refine lv_istore_n (lv' := [(3, .int 0), (2, .int 0), (0, .ref (sy_ad E 392)), (1, .int p0)]) hx hb dX12_owesOf_3 rfl hl (by decide) rfl (fun ls hl => ?_)
  exact L_4 sy_F p0 0 0 S _ _ _ X (lv_sub hl [2, 3, 1, 0] rfl) h
def m_Model_owes (p0 : Int32) (S : sy_St) : sy_R := sy_c (m_Model_isOne p0 S) fun r2 S1 => if r2 = 0 then (some ((-1000000001), S1)) else (sy_c (m_Model_owesOf p0 S1) fun r6 S5 => some (r6, S5))
theorem cv_Model_owes : sy_cV RX12 yX12_owes cX12_owes 2 (some .int) 1 := ⟨wm_867, wm_868, wm_5, wm_869, by decide +kernel⟩
set_option maxRecDepth 100000 in
set_option maxHeartbeats 40000000 in
theorem c_Model_owes (l : Launch) {E : sy_ET} (ht : sy_OModel E) {p0 : Int32} {S S' : sy_St} {r : Int32} (h : m_Model_owes p0 S = some (r, S')) : sy_MI l yX12_owes cX12_owes 2 (some .int) 2 43 [.ref (sy_ad E 392), .int p0] E S r S' := by
  refine sy_MI_of RX12 pn_12 rfl (Nat.le_of_ble_eq_true rfl) (fun p e s m args below meth c A ls fx hr hlk hA X hl => ?_)
  have hx := fx.1
  have hb := fx.2.1
  have hown := fx.2.2.2.1
  have hts := fx.2.2.2.2
  have hl : lv_has ls 2 [(0, .ref (sy_ad E 392)), (1, .int p0)] := hl
  unfold m_Model_owes at h
  refine lv_aload_n hx hb dX12_owes_0 rfl (lv_at hl 0 rfl) ?_
  refine lv_iload_n hx hb dX12_owes_1 rfl (lv_at hl 1 rfl) ?_
  obtain ⟨r2, S1, hc3, h⟩ := sy_c_e h
  refine sy_vi (rest := []) fx hA X hl.1 (sy_OModel_o ht) (sy_en11 (sy_OModel_o ht).2) rfl (c_Model_isOne l ht hc3) cv_Model_isOne wm_458 ⟨Nat.le_of_ble_eq_true rfl, Nat.le_of_ble_eq_true rfl, Nat.le_refl _, Nat.le_refl _⟩ rfl rfl (Nat.le_of_ble_eq_true rfl) dX12_owes_2 (fun H locs X => ?_)
  refine lv_if_eq (tgt := 16) hx hb dX12_owes_5 (by decide) (fun c4 => ?_) (fun c4 => ?_)
  · have h := sy_t c4 h
    refine lv_ldc (v := (-1000000001)) hx hb hown (hts _ wm_457) dX12_owes_16 ?_
    exact sy_iret fx X hr hlk h dX12_owes_18
  · have h := sy_f c4 h
    refine lv_aload_n hx hb dX12_owes_8 rfl (lv_at hl 0 rfl) ?_
    refine lv_iload_n hx hb dX12_owes_9 rfl (lv_at hl 1 rfl) ?_
    obtain ⟨r6, S5, hc7, h⟩ := sy_c_e h
    refine sy_vi (rest := []) fx hA X hl.1 (sy_OModel_o ht) (sy_en11 (sy_OModel_o ht).2) rfl (c_Model_owesOf l ht hc7) cv_Model_owesOf wm_870 ⟨Nat.le_of_ble_eq_true rfl, Nat.le_of_ble_eq_true rfl, Nat.le_refl _, Nat.le_refl _⟩ rfl rfl (Nat.le_of_ble_eq_true rfl) dX12_owes_10 (fun H locs X => ?_)
    refine lv_goto (tgt := 18) hx hb dX12_owes_13 (by decide) ?_
    exact sy_iret fx X hr hlk h dX12_owes_18
def m_Model_pair_B37 (kk22 : Int32 → Int32 → Int32 → Int32 → Int32 → sy_St → sy_R) (kk37 : Int32 → Int32 → Int32 → Int32 → Int32 → Int32 → sy_St → sy_R) (y1 : Int32) (y2 : Int32) (y3 : Int32) (y4 : Int32) (y5 : Int32) (y6 : Int32) (S : sy_St) : sy_R := if (S 392 19) ≤ y6 then (sy_b (y5 + 1 : Int32) fun x10 => kk22 y1 y2 y3 y4 x10 S) else (sy_c (m_Model_forceOf 400 31 y5 S) fun r12 S11 => sy_c (m_Model_forceOf 400 31 y6 S11) fun r15 S14 => sy_b (r12 + r15 : Int32) fun x17 => sy_c (m_Model_areLevel y5 y6 S14) fun r19 S18 => if r19 = 0 then (sy_b (y6 + 1 : Int32) fun x22 => kk37 y1 y2 y3 y4 y5 x22 S18) else (if x17 ≤ y4 then (sy_b (y6 + 1 : Int32) fun x24 => kk37 y1 y2 y3 y4 y5 x24 S18) else (sy_b (y6 + 1 : Int32) fun x25 => kk37 y1 y5 y6 x17 y5 x25 S18)))
def m_Model_pair_B22 (kk22 : Int32 → Int32 → Int32 → Int32 → Int32 → sy_St → sy_R) (y1 : Int32) (y2 : Int32) (y3 : Int32) (y4 : Int32) (y5 : Int32) (S : sy_St) : sy_R := if (S 392 19) ≤ y5 then (if y1 = 0 then (some (y2, S)) else (if y1 = 1 then (some (y3, S)) else (some (y4, S)))) else (sy_b (y5 + 1 : Int32) fun x8 => sy_fix (fun _ _ _ _ _ _ _ => none) (m_Model_pair_B37 kk22) sy_F y1 y2 y3 y4 y5 x8 S)
def m_Model_pair (p0 : Int32) (S : sy_St) : sy_R := sy_c (m_Model_in p0 0 2 S) fun r2 S1 => if r2 = 0 then (some ((-1000000002), S1)) else (sy_fix (fun _ _ _ _ _ _ => none) (m_Model_pair_B22) sy_F p0 (-1) (-1) (-1) 0 S1)
theorem cv_Model_pair : sy_cV RX12 yX12_pair cX12_pair 8 (some .int) 1 := ⟨wm_853, wm_854, wm_5, wm_855, by decide +kernel⟩
set_option maxRecDepth 100000 in
set_option maxHeartbeats 40000000 in
theorem c_Model_pair (l : Launch) {E : sy_ET} (ht : sy_OModel E) {p0 : Int32} {S S' : sy_St} {r : Int32} (h : m_Model_pair p0 S = some (r, S')) : sy_MI l yX12_pair cX12_pair 8 (some .int) 2 45 [.ref (sy_ad E 392), .int p0] E S r S' := by
  refine sy_MI_of RX12 pn_12 rfl (Nat.le_of_ble_eq_true rfl) (fun p e s m args below meth c A ls fx hr hlk hA X hl => ?_)
  have hx := fx.1
  have hb := fx.2.1
  have hown := fx.2.2.2.1
  have hts := fx.2.2.2.2
  have hl : lv_has ls 8 [(0, .ref (sy_ad E 392)), (1, .int p0)] := hl
  have L_22 : ∀ (n22 : Nat) (y1 y2 y3 y4 y5 : Int32) (S : sy_St) (H : Heap) (locs : List Loc) (ls : Array Slot), sy_Wd E A s S H locs → lv_has ls 8 [(0, .ref (sy_ad E 392)), (1, .int y1), (2, .int y2), (3, .int y3), (4, .int y4), (5, .int y5)] → sy_fix (fun _ _ _ _ _ _ => none) (m_Model_pair_B22) n22 y1 y2 y3 y4 y5 S = some (r, S') → W p l e (sy_rm 2 45) s m args below meth c H locs 0 0 (MQ below (sy_Qi E A r S') args s 0 0 A) (F0 m 22 ls []) := by
    intro n22
    induction n22 with
    | zero => intro y1 y2 y3 y4 y5 S H locs ls X hl h; have h9 : (none : sy_R) = some (r, S') := h; cases h9
    | succ n22 ih22 =>
      have L_37 : ∀ (n37 : Nat) (y1 y2 y3 y4 y5 y6 : Int32) (S : sy_St) (H : Heap) (locs : List Loc) (ls : Array Slot), sy_Wd E A s S H locs → lv_has ls 8 [(0, .ref (sy_ad E 392)), (1, .int y1), (2, .int y2), (3, .int y3), (4, .int y4), (5, .int y5), (6, .int y6)] → sy_fix (fun _ _ _ _ _ _ _ => none) (m_Model_pair_B37 (sy_fix (fun _ _ _ _ _ _ => none) (m_Model_pair_B22) n22)) n37 y1 y2 y3 y4 y5 y6 S = some (r, S') → W p l e (sy_rm 2 45) s m args below meth c H locs 0 0 (MQ below (sy_Qi E A r S') args s 0 0 A) (F0 m 37 ls []) := by
        intro n37
        induction n37 with
        | zero => intro y1 y2 y3 y4 y5 y6 S H locs ls X hl h; have h9 : (none : sy_R) = some (r, S') := h; cases h9
        | succ n37 ih37 =>
          intro y1 y2 y3 y4 y5 y6 S H locs ls X hl h
          have h : m_Model_pair_B37 (sy_fix (fun _ _ _ _ _ _ => none) (m_Model_pair_B22) n22) (sy_fix (fun _ _ _ _ _ _ _ => none) (m_Model_pair_B37 (sy_fix (fun _ _ _ _ _ _ => none) (m_Model_pair_B22) n22)) n37) y1 y2 y3 y4 y5 y6 S = some (r, S') := h
          unfold m_Model_pair_B37 at h
          refine lv_iload hx hb dX12_pair_37 (lv_at hl 6 rfl) ?_
          refine lv_aload_n hx hb dX12_pair_39 rfl (lv_at hl 0 rfl) ?_
          refine sy_g11 fx X (sy_OModel_o ht) 19 (by decide) wm_188 (fun _ h9 => h9) rfl dX12_pair_40 ?_
          refine lv_icmp_ge (tgt := 103) hx hb dX12_pair_43 (by decide) (fun c9 => ?_) (fun c9 => ?_)
          · have h := sy_t c9 h
            obtain ⟨x10, hx10, h⟩ := sy_b_e h
            refine lv_iinc (v := x10) (lv' := [(5, .int x10), (0, .ref (sy_ad E 392)), (1, .int y1), (2, .int y2), (3, .int y3), (4, .int y4), (6, .int y6)]) hx hb dX12_pair_103 hl (k := 5) rfl (by rw [hx10]; rfl) (by decide) rfl (fun ls hl => ?_)
            refine lv_goto (tgt := 22) hx hb dX12_pair_106 (by decide) ?_
            exact ih22 y1 y2 y3 y4 x10 S _ _ _ X (lv_sub hl [1, 2, 3, 4, 5, 0] rfl) h
          · have h := sy_f c9 h
            refine lv_aload_n hx hb dX12_pair_46 rfl (lv_at hl 0 rfl) ?_
            refine lv_aload_n hx hb dX12_pair_47 rfl (lv_at hl 0 rfl) ?_
            refine sy_q11 fx X (sy_OModel_o ht) 22 (by decide) wm_174 (fun _ h9 => h9) rfl (sy_OModel_r22 ht) dX12_pair_48 ?_
            refine lv_iload hx hb dX12_pair_51 (lv_at hl 5 rfl) ?_
            obtain ⟨r12, S11, hc13, h⟩ := sy_c_e h
            refine sy_vi (rest := []) fx hA X hl.1 (sy_OModel_o ht) (sy_en11 (sy_OModel_o ht).2) rfl (c_Model_forceOf l ht (sy_OModel_a22 ht) hc13) cv_Model_forceOf wm_429 ⟨Nat.le_of_ble_eq_true rfl, Nat.le_of_ble_eq_true rfl, Nat.le_refl _, Nat.le_refl _⟩ rfl rfl (Nat.le_of_ble_eq_true rfl) dX12_pair_53 (fun H locs X => ?_)
            refine lv_aload_n hx hb dX12_pair_56 rfl (lv_at hl 0 rfl) ?_
            refine lv_aload_n hx hb dX12_pair_57 rfl (lv_at hl 0 rfl) ?_
            refine sy_q11 fx X (sy_OModel_o ht) 22 (by decide) wm_174 (fun _ h9 => h9) rfl (sy_OModel_r22 ht) dX12_pair_58 ?_
            refine lv_iload hx hb dX12_pair_61 (lv_at hl 6 rfl) ?_
            obtain ⟨r15, S14, hc16, h⟩ := sy_c_e h
            refine sy_vi (rest := [.int r12]) fx hA X hl.1 (sy_OModel_o ht) (sy_en11 (sy_OModel_o ht).2) rfl (c_Model_forceOf l ht (sy_OModel_a22 ht) hc16) cv_Model_forceOf wm_429 ⟨Nat.le_of_ble_eq_true rfl, Nat.le_of_ble_eq_true rfl, Nat.le_refl _, Nat.le_refl _⟩ rfl rfl (Nat.le_of_ble_eq_true rfl) dX12_pair_63 (fun H locs X => ?_)
            refine lv_iadd hx hb dX12_pair_66 ?_
            obtain ⟨x17, hx17, h⟩ := sy_b_e h
            refine sy_top hx17 ?_
            refine lv_istore (lv' := [(7, .int x17), (0, .ref (sy_ad E 392)), (1, .int y1), (2, .int y2), (3, .int y3), (4, .int y4), (5, .int y5), (6, .int y6)]) hx hb dX12_pair_67 hl (by decide) rfl (fun ls hl => ?_)
            refine lv_aload_n hx hb dX12_pair_69 rfl (lv_at hl 1 rfl) ?_
            refine lv_iload hx hb dX12_pair_70 (lv_at hl 6 rfl) ?_
            refine lv_iload hx hb dX12_pair_72 (lv_at hl 7 rfl) ?_
            obtain ⟨r19, S18, hc20, h⟩ := sy_c_e h
            refine sy_vi (rest := []) fx hA X hl.1 (sy_OModel_o ht) (sy_en11 (sy_OModel_o ht).2) rfl (c_Model_areLevel l ht hc20) cv_Model_areLevel wm_629 ⟨Nat.le_of_ble_eq_true rfl, Nat.le_of_ble_eq_true rfl, Nat.le_refl _, Nat.le_refl _⟩ rfl rfl (Nat.le_of_ble_eq_true rfl) dX12_pair_74 (fun H locs X => ?_)
            refine lv_if_eq (tgt := 97) hx hb dX12_pair_77 (by decide) (fun c21 => ?_) (fun c21 => ?_)
            · have h := sy_t c21 h
              obtain ⟨x22, hx22, h⟩ := sy_b_e h
              refine lv_iinc (v := x22) (lv' := [(6, .int x22), (7, .int x17), (0, .ref (sy_ad E 392)), (1, .int y1), (2, .int y2), (3, .int y3), (4, .int y4), (5, .int y5)]) hx hb dX12_pair_97 hl (k := 7) rfl (by rw [hx22]; rfl) (by decide) rfl (fun ls hl => ?_)
              refine lv_goto (tgt := 37) hx hb dX12_pair_100 (by decide) ?_
              exact ih37 y1 y2 y3 y4 y5 x22 S18 _ _ _ X (lv_sub hl [2, 3, 4, 5, 6, 7, 0] rfl) h
            · have h := sy_f c21 h
              refine lv_iload hx hb dX12_pair_80 (lv_at hl 0 rfl) ?_
              refine lv_iload hx hb dX12_pair_82 (lv_at hl 5 rfl) ?_
              refine lv_icmp_le (tgt := 97) hx hb dX12_pair_84 (by decide) (fun c23 => ?_) (fun c23 => ?_)
              · have h := sy_t c23 h
                obtain ⟨x24, hx24, h⟩ := sy_b_e h
                refine lv_iinc (v := x24) (lv' := [(6, .int x24), (7, .int x17), (0, .ref (sy_ad E 392)), (1, .int y1), (2, .int y2), (3, .int y3), (4, .int y4), (5, .int y5)]) hx hb dX12_pair_97 hl (k := 7) rfl (by rw [hx24]; rfl) (by decide) rfl (fun ls hl => ?_)
                refine lv_goto (tgt := 37) hx hb dX12_pair_100 (by decide) ?_
                exact ih37 y1 y2 y3 y4 y5 x24 S18 _ _ _ X (lv_sub hl [2, 3, 4, 5, 6, 7, 0] rfl) h
              · have h := sy_f c23 h
                refine lv_iload hx hb dX12_pair_87 (lv_at hl 6 rfl) ?_
                refine lv_istore_n (lv' := [(2, .int y5), (7, .int x17), (0, .ref (sy_ad E 392)), (1, .int y1), (3, .int y3), (4, .int y4), (5, .int y5), (6, .int y6)]) hx hb dX12_pair_89 rfl hl (by decide) rfl (fun ls hl => ?_)
                refine lv_iload hx hb dX12_pair_90 (lv_at hl 7 rfl) ?_
                refine lv_istore_n (lv' := [(3, .int y6), (2, .int y5), (7, .int x17), (0, .ref (sy_ad E 392)), (1, .int y1), (4, .int y4), (5, .int y5), (6, .int y6)]) hx hb dX12_pair_92 rfl hl (by decide) rfl (fun ls hl => ?_)
                refine lv_iload hx hb dX12_pair_93 (lv_at hl 2 rfl) ?_
                refine lv_istore (lv' := [(4, .int x17), (3, .int y6), (2, .int y5), (7, .int x17), (0, .ref (sy_ad E 392)), (1, .int y1), (5, .int y5), (6, .int y6)]) hx hb dX12_pair_95 hl (by decide) rfl (fun ls hl => ?_)
                obtain ⟨x25, hx25, h⟩ := sy_b_e h
                refine lv_iinc (v := x25) (lv' := [(6, .int x25), (4, .int x17), (3, .int y6), (2, .int y5), (7, .int x17), (0, .ref (sy_ad E 392)), (1, .int y1), (5, .int y5)]) hx hb dX12_pair_97 hl (k := 7) rfl (by rw [hx25]; rfl) (by decide) rfl (fun ls hl => ?_)
                refine lv_goto (tgt := 37) hx hb dX12_pair_100 (by decide) ?_
                exact ih37 y1 y5 y6 x17 y5 x25 S18 _ _ _ X (lv_sub hl [5, 6, 3, 2, 1, 7, 0] rfl) h
      intro y1 y2 y3 y4 y5 S H locs ls X hl h
      have h : m_Model_pair_B22 (sy_fix (fun _ _ _ _ _ _ => none) (m_Model_pair_B22) n22) y1 y2 y3 y4 y5 S = some (r, S') := h
      unfold m_Model_pair_B22 at h
      refine lv_iload hx hb dX12_pair_22 (lv_at hl 5 rfl) ?_
      refine lv_aload_n hx hb dX12_pair_24 rfl (lv_at hl 0 rfl) ?_
      refine sy_g11 fx X (sy_OModel_o ht) 19 (by decide) wm_188 (fun _ h9 => h9) rfl dX12_pair_25 ?_
      refine lv_icmp_ge (tgt := 109) hx hb dX12_pair_28 (by decide) (fun c5 => ?_) (fun c5 => ?_)
      · have h := sy_t c5 h
        refine lv_iload_n hx hb dX12_pair_109 rfl (lv_at hl 1 rfl) ?_
        refine lv_if_ne (tgt := 117) hx hb dX12_pair_110 (by decide) (fun c6 => ?_) (fun c6 => ?_)
        · have h := sy_f c6 h
          refine lv_iload_n hx hb dX12_pair_117 rfl (lv_at hl 1 rfl) ?_
          refine lv_iconst (v := 1) hx hb dX12_pair_118 (by decide) ?_
          refine lv_icmp_ne (tgt := 126) hx hb dX12_pair_119 (by decide) (fun c7 => ?_) (fun c7 => ?_)
          · have h := sy_f c7 h
            refine lv_iload hx hb dX12_pair_126 (lv_at hl 4 rfl) ?_
            exact sy_iret fx X hr hlk h dX12_pair_128
          · have h := sy_t c7 h
            refine lv_iload_n hx hb dX12_pair_122 rfl (lv_at hl 3 rfl) ?_
            refine lv_goto (tgt := 128) hx hb dX12_pair_123 (by decide) ?_
            exact sy_iret fx X hr hlk h dX12_pair_128
        · have h := sy_t c6 h
          refine lv_iload_n hx hb dX12_pair_113 rfl (lv_at hl 2 rfl) ?_
          refine lv_goto (tgt := 128) hx hb dX12_pair_114 (by decide) ?_
          exact sy_iret fx X hr hlk h dX12_pair_128
      · have h := sy_f c5 h
        refine lv_iload hx hb dX12_pair_31 (lv_at hl 5 rfl) ?_
        refine lv_iconst (v := 1) hx hb dX12_pair_33 (by decide) ?_
        refine lv_iadd hx hb dX12_pair_34 ?_
        obtain ⟨x8, hx8, h⟩ := sy_b_e h
        refine sy_top hx8 ?_
        refine lv_istore (lv' := [(6, .int x8), (0, .ref (sy_ad E 392)), (1, .int y1), (2, .int y2), (3, .int y3), (4, .int y4), (5, .int y5)]) hx hb dX12_pair_35 hl (by decide) rfl (fun ls hl => ?_)
        exact L_37 sy_F y1 y2 y3 y4 y5 x8 S _ _ _ X (lv_sub hl [1, 2, 3, 4, 5, 6, 0] rfl) h
  unfold m_Model_pair at h
  refine lv_iload_n hx hb dX12_pair_0 rfl (lv_at hl 1 rfl) ?_
  refine lv_iconst (v := 0) hx hb dX12_pair_1 (by decide) ?_
  refine lv_iconst (v := 2) hx hb dX12_pair_2 (by decide) ?_
  obtain ⟨r2, S1, hc3, h⟩ := sy_c_e h
  refine sy_si (rest := []) fx hA X hl.1 (c_Model_in l hc3) cv_Model_in wm_211 ⟨Nat.le_of_ble_eq_true rfl, Nat.le_of_ble_eq_true rfl, Nat.le_refl _, Nat.le_refl _⟩ rfl rfl (Nat.le_of_ble_eq_true rfl) dX12_pair_3 (fun H locs X => ?_)
  refine lv_if_ne (tgt := 12) hx hb dX12_pair_6 (by decide) (fun c4 => ?_) (fun c4 => ?_)
  · have h := sy_f c4 h
    refine lv_iconst (v := (-1)) hx hb dX12_pair_12 (by decide) ?_
    refine lv_istore_n (lv' := [(2, .int (-1)), (0, .ref (sy_ad E 392)), (1, .int p0)]) hx hb dX12_pair_13 rfl hl (by decide) rfl (fun ls hl => ?_)
    refine lv_iconst (v := (-1)) hx hb dX12_pair_14 (by decide) ?_
    refine lv_istore_n (lv' := [(3, .int (-1)), (2, .int (-1)), (0, .ref (sy_ad E 392)), (1, .int p0)]) hx hb dX12_pair_15 rfl hl (by decide) rfl (fun ls hl => ?_)
    refine lv_iconst (v := (-1)) hx hb dX12_pair_16 (by decide) ?_
    refine lv_istore (lv' := [(4, .int (-1)), (3, .int (-1)), (2, .int (-1)), (0, .ref (sy_ad E 392)), (1, .int p0)]) hx hb dX12_pair_17 hl (by decide) rfl (fun ls hl => ?_)
    refine lv_iconst (v := 0) hx hb dX12_pair_19 (by decide) ?_
    refine lv_istore (lv' := [(5, .int 0), (4, .int (-1)), (3, .int (-1)), (2, .int (-1)), (0, .ref (sy_ad E 392)), (1, .int p0)]) hx hb dX12_pair_20 hl (by decide) rfl (fun ls hl => ?_)
    exact L_22 sy_F p0 (-1) (-1) (-1) 0 S1 _ _ _ X (lv_sub hl [4, 5, 3, 2, 1, 0] rfl) h
  · have h := sy_t c4 h
    refine lv_ldc (v := (-1000000002)) hx hb hown (hts _ wm_208) dX12_pair_9 ?_
    exact sy_iret fx X hr hlk h dX12_pair_11
def m_Model_payments_J89 (kk45 : Int32 → Int32 → Int32 → sy_St → sy_R) (kk59 : Int32 → Int32 → Int32 → Int32 → Int32 → Int32 → sy_St → sy_R) (y1 : Int32) (y2 : Int32) (y3 : Int32) (y5 : Int32) (y6 : Int32) (t0 : Int32) (t1 : Int32) (S : sy_St) : sy_R := sy_b (t0 + t1 : Int32) fun x20 => sy_c (m_Model_has y3 y6 S) fun r22 S21 => if r22 = 0 then (sy_b (y6 + 1 : Int32) fun x25 => kk59 y1 y2 y3 x20 y5 x25 S21) else (sy_b (y3 &&& ((1 <<< (y6 &&& 31)) ^^^ (-1)) : Int32) fun x26 => sy_g (sy_in x26 64) <| if (S21 409 x26.toNatClampNeg) ≤ y5 then (sy_b (y6 + 1 : Int32) fun x29 => kk59 y1 y2 y3 x20 y5 x29 S21) else (sy_b (y3 &&& ((1 <<< (y6 &&& 31)) ^^^ (-1)) : Int32) fun x30 => sy_g (sy_in x30 64) <| sy_b (S21 409 x30.toNatClampNeg : Int32) fun x32 => sy_b (y6 + 1 : Int32) fun x33 => kk59 y1 y2 y3 x20 x32 x33 S21))
def m_Model_payments_B151 (kk45 : Int32 → Int32 → Int32 → sy_St → sy_R) (kk151 : Int32 → Int32 → Int32 → Int32 → Int32 → Int32 → Int32 → sy_St → sy_R) (y1 : Int32) (y2 : Int32) (y3 : Int32) (y4 : Int32) (y5 : Int32) (y6 : Int32) (y7 : Int32) (S : sy_St) : sy_R := if (S 392 19) ≤ y7 then (if y4 = 0 then (if y3 = 0 then (sy_g (sy_in y3 64) <| sy_b (sy_up S 409 y3.toNatClampNeg y5) fun S41 => sy_b (y3 + 1 : Int32) fun x42 => kk45 y1 y2 x42 S41) else (if y6 = 0 then (sy_g (sy_in y3 64) <| sy_b (sy_up S 409 y3.toNatClampNeg (y5 + 1)) fun S48 => sy_b (y3 + 1 : Int32) fun x49 => kk45 y1 y2 x49 S48) else (sy_g (sy_in y3 64) <| sy_b (sy_up S 409 y3.toNatClampNeg y5) fun S45 => sy_b (y3 + 1 : Int32) fun x46 => kk45 y1 y2 x46 S45))) else (sy_g (sy_in y3 64) <| sy_b (sy_up S 409 y3.toNatClampNeg y5) fun S37 => sy_b (y3 + 1 : Int32) fun x38 => kk45 y1 y2 x38 S37)) else (if y6 = 0 then (sy_c (m_Model_has y3 y7 S) fun r53 S52 => if r53 = 0 then (sy_b (y7 + 1 : Int32) fun x56 => kk151 y1 y2 y3 y4 y5 0 x56 S52) else (sy_c (m_Model_owesOf y7 S52) fun r58 S57 => if r58 = 0 then (sy_b (y7 + 1 : Int32) fun x62 => kk151 y1 y2 y3 y4 y5 1 x62 S57) else (sy_b (y7 + 1 : Int32) fun x61 => kk151 y1 y2 y3 y4 y5 0 x61 S57))) else (sy_b (y7 + 1 : Int32) fun x51 => kk151 y1 y2 y3 y4 y5 1 x51 S))
def m_Model_payments_B59 (kk45 : Int32 → Int32 → Int32 → sy_St → sy_R) (kk59 : Int32 → Int32 → Int32 → Int32 → Int32 → Int32 → sy_St → sy_R) (y1 : Int32) (y2 : Int32) (y3 : Int32) (y4 : Int32) (y5 : Int32) (y6 : Int32) (S : sy_St) : sy_R := if (S 392 19) ≤ y6 then (sy_fix (fun _ _ _ _ _ _ _ _ => none) (m_Model_payments_B151 kk45) sy_F y1 y2 y3 y4 y5 0 0 S) else (sy_c (m_Model_has y3 y6 S) fun r14 S13 => if r14 = 0 then (m_Model_payments_J89 kk45 kk59 y1 y2 y3 y5 y6 y4 0 S13) else (sy_c (m_Model_owesOf y6 S13) fun r18 S17 => m_Model_payments_J89 kk45 kk59 y1 y2 y3 y5 y6 y4 r18 S17))
def m_Model_payments_B236 (kk236 : Int32 → Int32 → Int32 → sy_St → sy_R) (y1 : Int32) (y3 : Int32) (y4 : Int32) (S : sy_St) : sy_R := if (S 392 19) ≤ y4 then (sy_g (sy_in y3 64) <| some (y1 - (S 409 y3.toNatClampNeg), S)) else (sy_c (m_Model_owesOf y4 S) fun r66 S65 => if r66 = 0 then (sy_b (y3 &&& ((1 <<< (y4 &&& 31)) ^^^ (-1)) : Int32) fun x70 => sy_b (y4 + 1 : Int32) fun x71 => kk236 y1 x70 x71 S65) else (sy_b (y4 + 1 : Int32) fun x69 => kk236 y1 y3 x69 S65))
def m_Model_payments_B45 (kk45 : Int32 → Int32 → Int32 → sy_St → sy_R) (y1 : Int32) (y2 : Int32) (y3 : Int32) (S : sy_St) : sy_R := if y2 < y3 then (sy_fix (fun _ _ _ _ => none) (m_Model_payments_B236) sy_F y1 y2 0 S) else (sy_fix (fun _ _ _ _ _ _ _ => none) (m_Model_payments_B59 kk45) sy_F y1 y2 y3 0 0 0 S)
def m_Model_payments_B4 (kk4 : Int32 → Int32 → sy_St → sy_R) (y1 : Int32) (y2 : Int32) (S : sy_St) : sy_R := if (S 392 19) ≤ y2 then (sy_b ((1 <<< ((S 392 19) &&& 31)) - 1 : Int32) fun x2 => sy_fix (fun _ _ _ _ => none) (m_Model_payments_B45) sy_F y1 x2 0 S) else (sy_c (m_Model_owesOf y2 S) fun r4 S3 => if r4 = 0 then (sy_b (y1 + 0 : Int32) fun x9 => sy_b (y2 + 1 : Int32) fun x10 => kk4 x9 x10 S3) else (sy_b (y1 + 1 : Int32) fun x7 => sy_b (y2 + 1 : Int32) fun x8 => kk4 x7 x8 S3))
def m_Model_payments (S : sy_St) : sy_R := sy_fix (fun _ _ _ => none) (m_Model_payments_B4) sy_F 0 0 S
theorem cv_Model_payments : sy_cV RX12 yX12_payments cX12_payments 8 (some .int) 0 := ⟨wm_885, wm_886, wm_5, wm_887, by decide +kernel⟩
set_option maxRecDepth 100000 in
set_option maxHeartbeats 40000000 in
theorem c_Model_payments (l : Launch) {E : sy_ET} (ht : sy_OModel E) {S S' : sy_St} {r : Int32} (h : m_Model_payments S = some (r, S')) : sy_MI l yX12_payments cX12_payments 8 (some .int) 1 23 [.ref (sy_ad E 392)] E S r S' := by
  refine sy_MI_of RX12 pn_12 rfl (Nat.le_of_ble_eq_true rfl) (fun p e s m args below meth c A ls fx hr hlk hA X hl => ?_)
  have hx := fx.1
  have hb := fx.2.1
  have hown := fx.2.2.2.1
  have hts := fx.2.2.2.2
  have hl : lv_has ls 8 [(0, .ref (sy_ad E 392))] := hl
  have L_236 : ∀ (n236 : Nat) (y1 y3 y4 : Int32) (S : sy_St) (H : Heap) (locs : List Loc) (ls : Array Slot), sy_Wd E A s S H locs → lv_has ls 8 [(0, .ref (sy_ad E 392)), (1, .int y1), (3, .int y3), (4, .int y4)] → sy_fix (fun _ _ _ _ => none) (m_Model_payments_B236) n236 y1 y3 y4 S = some (r, S') → W p l e (sy_rm 1 23) s m args below meth c H locs 0 0 (MQ below (sy_Qi E A r S') args s 0 0 A) (F0 m 236 ls []) := by
    intro n236
    induction n236 with
    | zero => intro y1 y3 y4 S H locs ls X hl h; have h9 : (none : sy_R) = some (r, S') := h; cases h9
    | succ n236 ih236 =>
      intro y1 y3 y4 S H locs ls X hl h
      have h : m_Model_payments_B236 (sy_fix (fun _ _ _ _ => none) (m_Model_payments_B236) n236) y1 y3 y4 S = some (r, S') := h
      unfold m_Model_payments_B236 at h
      refine lv_iload hx hb dX12_payments_236 (lv_at hl 3 rfl) ?_
      refine lv_aload_n hx hb dX12_payments_238 rfl (lv_at hl 0 rfl) ?_
      refine sy_g11 fx X (sy_OModel_o ht) 19 (by decide) wm_188 (fun _ h9 => h9) rfl dX12_payments_239 ?_
      refine lv_icmp_ge (tgt := 273) hx hb dX12_payments_242 (by decide) (fun c63 => ?_) (fun c63 => ?_)
      · have h := sy_t c63 h
        refine lv_iload_n hx hb dX12_payments_273 rfl (lv_at hl 1 rfl) ?_
        refine lv_aload_n hx hb dX12_payments_274 rfl (lv_at hl 0 rfl) ?_
        refine sy_q11 fx X (sy_OModel_o ht) 34 (by decide) wm_183 (fun _ h9 => h9) rfl (sy_OModel_r34 ht) dX12_payments_275 ?_
        refine lv_iload_n hx hb dX12_payments_278 rfl (lv_at hl 2 rfl) ?_
        obtain ⟨g64, h⟩ := sy_g_e h
        refine sy_iald fx X (sy_OModel_a34 ht) g64 dX12_payments_279 ?_
        refine lv_isub hx hb dX12_payments_280 ?_
        exact sy_iret fx X hr hlk h dX12_payments_281
      · have h := sy_f c63 h
        refine lv_aload_n hx hb dX12_payments_245 rfl (lv_at hl 0 rfl) ?_
        refine lv_iload hx hb dX12_payments_246 (lv_at hl 3 rfl) ?_
        obtain ⟨r66, S65, hc67, h⟩ := sy_c_e h
        refine sy_vi (rest := []) fx hA X hl.1 (sy_OModel_o ht) (sy_en11 (sy_OModel_o ht).2) rfl (c_Model_owesOf l ht hc67) cv_Model_owesOf wm_870 ⟨Nat.le_of_ble_eq_true rfl, Nat.le_of_ble_eq_true rfl, Nat.le_refl _, Nat.le_refl _⟩ rfl rfl (Nat.le_of_ble_eq_true rfl) dX12_payments_248 (fun H locs X => ?_)
        refine lv_if_ne (tgt := 265) hx hb dX12_payments_251 (by decide) (fun c68 => ?_) (fun c68 => ?_)
        · have h := sy_f c68 h
          refine lv_iload_n hx hb dX12_payments_265 rfl (lv_at hl 2 rfl) ?_
          refine lv_istore_n (lv' := [(3, .int y3), (0, .ref (sy_ad E 392)), (1, .int y1), (4, .int y4)]) hx hb dX12_payments_266 rfl hl (by decide) rfl (fun ls hl => ?_)
          obtain ⟨x69, hx69, h⟩ := sy_b_e h
          refine lv_iinc (v := x69) (lv' := [(4, .int x69), (3, .int y3), (0, .ref (sy_ad E 392)), (1, .int y1)]) hx hb dX12_payments_267 hl (k := 3) rfl (by rw [hx69]; rfl) (by decide) rfl (fun ls hl => ?_)
          refine lv_goto (tgt := 236) hx hb dX12_payments_270 (by decide) ?_
          exact ih236 y1 y3 x69 S65 _ _ _ X (lv_sub hl [2, 3, 1, 0] rfl) h
        · have h := sy_t c68 h
          refine lv_iload_n hx hb dX12_payments_254 rfl (lv_at hl 2 rfl) ?_
          refine lv_iconst (v := 1) hx hb dX12_payments_255 (by decide) ?_
          refine lv_iload hx hb dX12_payments_256 (lv_at hl 3 rfl) ?_
          refine lv_ishl hx hb dX12_payments_258 ?_
          refine lv_iconst (v := (-1)) hx hb dX12_payments_259 (by decide) ?_
          refine lv_ixor hx hb dX12_payments_260 ?_
          refine lv_iand hx hb dX12_payments_261 ?_
          refine lv_goto (tgt := 266) hx hb dX12_payments_262 (by decide) ?_
          obtain ⟨x70, hx70, h⟩ := sy_b_e h
          refine sy_top hx70 ?_
          refine lv_istore_n (lv' := [(3, .int x70), (0, .ref (sy_ad E 392)), (1, .int y1), (4, .int y4)]) hx hb dX12_payments_266 rfl hl (by decide) rfl (fun ls hl => ?_)
          obtain ⟨x71, hx71, h⟩ := sy_b_e h
          refine lv_iinc (v := x71) (lv' := [(4, .int x71), (3, .int x70), (0, .ref (sy_ad E 392)), (1, .int y1)]) hx hb dX12_payments_267 hl (k := 3) rfl (by rw [hx71]; rfl) (by decide) rfl (fun ls hl => ?_)
          refine lv_goto (tgt := 236) hx hb dX12_payments_270 (by decide) ?_
          exact ih236 y1 x70 x71 S65 _ _ _ X (lv_sub hl [2, 3, 1, 0] rfl) h
  have L_45 : ∀ (n45 : Nat) (y1 y2 y3 : Int32) (S : sy_St) (H : Heap) (locs : List Loc) (ls : Array Slot), sy_Wd E A s S H locs → lv_has ls 8 [(0, .ref (sy_ad E 392)), (1, .int y1), (2, .int y2), (3, .int y3)] → sy_fix (fun _ _ _ _ => none) (m_Model_payments_B45) n45 y1 y2 y3 S = some (r, S') → W p l e (sy_rm 1 23) s m args below meth c H locs 0 0 (MQ below (sy_Qi E A r S') args s 0 0 A) (F0 m 45 ls []) := by
    intro n45
    induction n45 with
    | zero => intro y1 y2 y3 S H locs ls X hl h; have h9 : (none : sy_R) = some (r, S') := h; cases h9
    | succ n45 ih45 =>
      have L_151 : ∀ (n151 : Nat) (y1 y2 y3 y4 y5 y6 y7 : Int32) (S : sy_St) (H : Heap) (locs : List Loc) (ls : Array Slot), sy_Wd E A s S H locs → lv_has ls 8 [(0, .ref (sy_ad E 392)), (1, .int y1), (2, .int y2), (3, .int y3), (4, .int y4), (5, .int y5), (6, .int y6), (7, .int y7)] → sy_fix (fun _ _ _ _ _ _ _ _ => none) (m_Model_payments_B151 (sy_fix (fun _ _ _ _ => none) (m_Model_payments_B45) n45)) n151 y1 y2 y3 y4 y5 y6 y7 S = some (r, S') → W p l e (sy_rm 1 23) s m args below meth c H locs 0 0 (MQ below (sy_Qi E A r S') args s 0 0 A) (F0 m 151 ls []) := by
        intro n151
        induction n151 with
        | zero => intro y1 y2 y3 y4 y5 y6 y7 S H locs ls X hl h; have h9 : (none : sy_R) = some (r, S') := h; cases h9
        | succ n151 ih151 =>
          intro y1 y2 y3 y4 y5 y6 y7 S H locs ls X hl h
          have h : m_Model_payments_B151 (sy_fix (fun _ _ _ _ => none) (m_Model_payments_B45) n45) (sy_fix (fun _ _ _ _ _ _ _ _ => none) (m_Model_payments_B151 (sy_fix (fun _ _ _ _ => none) (m_Model_payments_B45) n45)) n151) y1 y2 y3 y4 y5 y6 y7 S = some (r, S') := h
          unfold m_Model_payments_B151 at h
          refine lv_iload hx hb dX12_payments_151 (lv_at hl 7 rfl) ?_
          refine lv_aload_n hx hb dX12_payments_153 rfl (lv_at hl 0 rfl) ?_
          refine sy_g11 fx X (sy_OModel_o ht) 19 (by decide) wm_188 (fun _ h9 => h9) rfl dX12_payments_154 ?_
          refine lv_icmp_ge (tgt := 196) hx hb dX12_payments_157 (by decide) (fun c34 => ?_) (fun c34 => ?_)
          · have h := sy_t c34 h
            refine lv_aload_n hx hb dX12_payments_196 rfl (lv_at hl 0 rfl) ?_
            refine sy_q11 fx X (sy_OModel_o ht) 34 (by decide) wm_183 (fun _ h9 => h9) rfl (sy_OModel_r34 ht) dX12_payments_197 ?_
            refine lv_iload_n hx hb dX12_payments_200 rfl (lv_at hl 3 rfl) ?_
            refine lv_iload hx hb dX12_payments_201 (lv_at hl 4 rfl) ?_
            refine lv_if_ne (tgt := 222) hx hb dX12_payments_203 (by decide) (fun c35 => ?_) (fun c35 => ?_)
            · have h := sy_f c35 h
              refine lv_iload hx hb dX12_payments_222 (lv_at hl 5 rfl) ?_
              obtain ⟨g36, h⟩ := sy_g_e h
              obtain ⟨S37, hS37, h⟩ := sy_b_e h
              refine sy_iast fx X (sy_OModel_a34 ht) g36 hS37 dX12_payments_224 (fun H locs X => ?_)
              obtain ⟨x38, hx38, h⟩ := sy_b_e h
              refine lv_iinc (v := x38) (lv' := [(3, .int x38), (0, .ref (sy_ad E 392)), (1, .int y1), (2, .int y2), (4, .int y4), (5, .int y5), (6, .int y6), (7, .int y7)]) hx hb dX12_payments_225 hl (k := 3) rfl (by rw [hx38]; rfl) (by decide) rfl (fun ls hl => ?_)
              refine lv_goto (tgt := 45) hx hb dX12_payments_228 (by decide) ?_
              exact ih45 y1 y2 x38 S37 _ _ _ X (lv_sub hl [1, 2, 3, 0] rfl) h
            · have h := sy_t c35 h
              refine lv_iload_n hx hb dX12_payments_206 rfl (lv_at hl 3 rfl) ?_
              refine lv_if_eq (tgt := 222) hx hb dX12_payments_207 (by decide) (fun c39 => ?_) (fun c39 => ?_)
              · have h := sy_t c39 h
                refine lv_iload hx hb dX12_payments_222 (lv_at hl 5 rfl) ?_
                obtain ⟨g40, h⟩ := sy_g_e h
                obtain ⟨S41, hS41, h⟩ := sy_b_e h
                refine sy_iast fx X (sy_OModel_a34 ht) g40 hS41 dX12_payments_224 (fun H locs X => ?_)
                obtain ⟨x42, hx42, h⟩ := sy_b_e h
                refine lv_iinc (v := x42) (lv' := [(3, .int x42), (0, .ref (sy_ad E 392)), (1, .int y1), (2, .int y2), (4, .int y4), (5, .int y5), (6, .int y6), (7, .int y7)]) hx hb dX12_payments_225 hl (k := 3) rfl (by rw [hx42]; rfl) (by decide) rfl (fun ls hl => ?_)
                refine lv_goto (tgt := 45) hx hb dX12_payments_228 (by decide) ?_
                exact ih45 y1 y2 x42 S41 _ _ _ X (lv_sub hl [1, 2, 3, 0] rfl) h
              · have h := sy_f c39 h
                refine lv_iload hx hb dX12_payments_210 (lv_at hl 6 rfl) ?_
                refine lv_if_ne (tgt := 222) hx hb dX12_payments_212 (by decide) (fun c43 => ?_) (fun c43 => ?_)
                · have h := sy_f c43 h
                  refine lv_iload hx hb dX12_payments_222 (lv_at hl 5 rfl) ?_
                  obtain ⟨g44, h⟩ := sy_g_e h
                  obtain ⟨S45, hS45, h⟩ := sy_b_e h
                  refine sy_iast fx X (sy_OModel_a34 ht) g44 hS45 dX12_payments_224 (fun H locs X => ?_)
                  obtain ⟨x46, hx46, h⟩ := sy_b_e h
                  refine lv_iinc (v := x46) (lv' := [(3, .int x46), (0, .ref (sy_ad E 392)), (1, .int y1), (2, .int y2), (4, .int y4), (5, .int y5), (6, .int y6), (7, .int y7)]) hx hb dX12_payments_225 hl (k := 3) rfl (by rw [hx46]; rfl) (by decide) rfl (fun ls hl => ?_)
                  refine lv_goto (tgt := 45) hx hb dX12_payments_228 (by decide) ?_
                  exact ih45 y1 y2 x46 S45 _ _ _ X (lv_sub hl [1, 2, 3, 0] rfl) h
                · have h := sy_t c43 h
                  refine lv_iload hx hb dX12_payments_215 (lv_at hl 5 rfl) ?_
                  refine lv_iconst (v := 1) hx hb dX12_payments_217 (by decide) ?_
                  refine lv_iadd hx hb dX12_payments_218 ?_
                  refine lv_goto (tgt := 224) hx hb dX12_payments_219 (by decide) ?_
                  obtain ⟨g47, h⟩ := sy_g_e h
                  obtain ⟨S48, hS48, h⟩ := sy_b_e h
                  refine sy_iast fx X (sy_OModel_a34 ht) g47 hS48 dX12_payments_224 (fun H locs X => ?_)
                  obtain ⟨x49, hx49, h⟩ := sy_b_e h
                  refine lv_iinc (v := x49) (lv' := [(3, .int x49), (0, .ref (sy_ad E 392)), (1, .int y1), (2, .int y2), (4, .int y4), (5, .int y5), (6, .int y6), (7, .int y7)]) hx hb dX12_payments_225 hl (k := 3) rfl (by rw [hx49]; rfl) (by decide) rfl (fun ls hl => ?_)
                  refine lv_goto (tgt := 45) hx hb dX12_payments_228 (by decide) ?_
                  exact ih45 y1 y2 x49 S48 _ _ _ X (lv_sub hl [1, 2, 3, 0] rfl) h
          · have h := sy_f c34 h
            refine lv_iload hx hb dX12_payments_160 (lv_at hl 6 rfl) ?_
            refine lv_if_ne (tgt := 183) hx hb dX12_payments_162 (by decide) (fun c50 => ?_) (fun c50 => ?_)
            · have h := sy_f c50 h
              refine lv_iconst (v := 1) hx hb dX12_payments_183 (by decide) ?_
              refine lv_goto (tgt := 188) hx hb dX12_payments_184 (by decide) ?_
              refine lv_istore (lv' := [(6, .int 1), (0, .ref (sy_ad E 392)), (1, .int y1), (2, .int y2), (3, .int y3), (4, .int y4), (5, .int y5), (7, .int y7)]) hx hb dX12_payments_188 hl (by decide) rfl (fun ls hl => ?_)
              obtain ⟨x51, hx51, h⟩ := sy_b_e h
              refine lv_iinc (v := x51) (lv' := [(7, .int x51), (6, .int 1), (0, .ref (sy_ad E 392)), (1, .int y1), (2, .int y2), (3, .int y3), (4, .int y4), (5, .int y5)]) hx hb dX12_payments_190 hl (k := 7) rfl (by rw [hx51]; rfl) (by decide) rfl (fun ls hl => ?_)
              refine lv_goto (tgt := 151) hx hb dX12_payments_193 (by decide) ?_
              exact ih151 y1 y2 y3 y4 y5 1 x51 S _ _ _ X (lv_sub hl [2, 3, 4, 5, 6, 7, 1, 0] rfl) h
            · have h := sy_t c50 h
              refine lv_iload_n hx hb dX12_payments_165 rfl (lv_at hl 3 rfl) ?_
              refine lv_iload hx hb dX12_payments_166 (lv_at hl 7 rfl) ?_
              obtain ⟨r53, S52, hc54, h⟩ := sy_c_e h
              refine sy_si (rest := []) fx hA X hl.1 (c_Model_has l hc54) cv_Model_has wm_581 ⟨Nat.le_of_ble_eq_true rfl, Nat.le_of_ble_eq_true rfl, Nat.le_refl _, Nat.le_refl _⟩ rfl rfl (Nat.le_of_ble_eq_true rfl) dX12_payments_168 (fun H locs X => ?_)
              refine lv_if_eq (tgt := 187) hx hb dX12_payments_171 (by decide) (fun c55 => ?_) (fun c55 => ?_)
              · have h := sy_t c55 h
                refine lv_iconst (v := 0) hx hb dX12_payments_187 (by decide) ?_
                refine lv_istore (lv' := [(6, .int 0), (0, .ref (sy_ad E 392)), (1, .int y1), (2, .int y2), (3, .int y3), (4, .int y4), (5, .int y5), (7, .int y7)]) hx hb dX12_payments_188 hl (by decide) rfl (fun ls hl => ?_)
                obtain ⟨x56, hx56, h⟩ := sy_b_e h
                refine lv_iinc (v := x56) (lv' := [(7, .int x56), (6, .int 0), (0, .ref (sy_ad E 392)), (1, .int y1), (2, .int y2), (3, .int y3), (4, .int y4), (5, .int y5)]) hx hb dX12_payments_190 hl (k := 7) rfl (by rw [hx56]; rfl) (by decide) rfl (fun ls hl => ?_)
                refine lv_goto (tgt := 151) hx hb dX12_payments_193 (by decide) ?_
                exact ih151 y1 y2 y3 y4 y5 0 x56 S52 _ _ _ X (lv_sub hl [2, 3, 4, 5, 6, 7, 1, 0] rfl) h
              · have h := sy_f c55 h
                refine lv_aload_n hx hb dX12_payments_174 rfl (lv_at hl 0 rfl) ?_
                refine lv_iload hx hb dX12_payments_175 (lv_at hl 7 rfl) ?_
                obtain ⟨r58, S57, hc59, h⟩ := sy_c_e h
                refine sy_vi (rest := []) fx hA X hl.1 (sy_OModel_o ht) (sy_en11 (sy_OModel_o ht).2) rfl (c_Model_owesOf l ht hc59) cv_Model_owesOf wm_870 ⟨Nat.le_of_ble_eq_true rfl, Nat.le_of_ble_eq_true rfl, Nat.le_refl _, Nat.le_refl _⟩ rfl rfl (Nat.le_of_ble_eq_true rfl) dX12_payments_177 (fun H locs X => ?_)
                refine lv_if_ne (tgt := 187) hx hb dX12_payments_180 (by decide) (fun c60 => ?_) (fun c60 => ?_)
                · have h := sy_f c60 h
                  refine lv_iconst (v := 0) hx hb dX12_payments_187 (by decide) ?_
                  refine lv_istore (lv' := [(6, .int 0), (0, .ref (sy_ad E 392)), (1, .int y1), (2, .int y2), (3, .int y3), (4, .int y4), (5, .int y5), (7, .int y7)]) hx hb dX12_payments_188 hl (by decide) rfl (fun ls hl => ?_)
                  obtain ⟨x61, hx61, h⟩ := sy_b_e h
                  refine lv_iinc (v := x61) (lv' := [(7, .int x61), (6, .int 0), (0, .ref (sy_ad E 392)), (1, .int y1), (2, .int y2), (3, .int y3), (4, .int y4), (5, .int y5)]) hx hb dX12_payments_190 hl (k := 7) rfl (by rw [hx61]; rfl) (by decide) rfl (fun ls hl => ?_)
                  refine lv_goto (tgt := 151) hx hb dX12_payments_193 (by decide) ?_
                  exact ih151 y1 y2 y3 y4 y5 0 x61 S57 _ _ _ X (lv_sub hl [2, 3, 4, 5, 6, 7, 1, 0] rfl) h
                · have h := sy_t c60 h
                  refine lv_iconst (v := 1) hx hb dX12_payments_183 (by decide) ?_
                  refine lv_goto (tgt := 188) hx hb dX12_payments_184 (by decide) ?_
                  refine lv_istore (lv' := [(6, .int 1), (0, .ref (sy_ad E 392)), (1, .int y1), (2, .int y2), (3, .int y3), (4, .int y4), (5, .int y5), (7, .int y7)]) hx hb dX12_payments_188 hl (by decide) rfl (fun ls hl => ?_)
                  obtain ⟨x62, hx62, h⟩ := sy_b_e h
                  refine lv_iinc (v := x62) (lv' := [(7, .int x62), (6, .int 1), (0, .ref (sy_ad E 392)), (1, .int y1), (2, .int y2), (3, .int y3), (4, .int y4), (5, .int y5)]) hx hb dX12_payments_190 hl (k := 7) rfl (by rw [hx62]; rfl) (by decide) rfl (fun ls hl => ?_)
                  refine lv_goto (tgt := 151) hx hb dX12_payments_193 (by decide) ?_
                  exact ih151 y1 y2 y3 y4 y5 1 x62 S57 _ _ _ X (lv_sub hl [2, 3, 4, 5, 6, 7, 1, 0] rfl) h
      have L_59 : ∀ (n59 : Nat) (y1 y2 y3 y4 y5 y6 : Int32) (S : sy_St) (H : Heap) (locs : List Loc) (ls : Array Slot), sy_Wd E A s S H locs → lv_has ls 8 [(0, .ref (sy_ad E 392)), (1, .int y1), (2, .int y2), (3, .int y3), (4, .int y4), (5, .int y5), (6, .int y6)] → sy_fix (fun _ _ _ _ _ _ _ => none) (m_Model_payments_B59 (sy_fix (fun _ _ _ _ => none) (m_Model_payments_B45) n45)) n59 y1 y2 y3 y4 y5 y6 S = some (r, S') → W p l e (sy_rm 1 23) s m args below meth c H locs 0 0 (MQ below (sy_Qi E A r S') args s 0 0 A) (F0 m 59 ls []) := by
        intro n59
        induction n59 with
        | zero => intro y1 y2 y3 y4 y5 y6 S H locs ls X hl h; have h9 : (none : sy_R) = some (r, S') := h; cases h9
        | succ n59 ih59 =>
          have J_89 : ∀ (y1 y2 y3 y5 y6 t0 t1 : Int32) (S : sy_St) (H : Heap) (locs : List Loc) (ls : Array Slot), sy_Wd E A s S H locs → lv_has ls 8 [(0, .ref (sy_ad E 392)), (1, .int y1), (2, .int y2), (3, .int y3), (5, .int y5), (6, .int y6)] → m_Model_payments_J89 (sy_fix (fun _ _ _ _ => none) (m_Model_payments_B45) n45) (sy_fix (fun _ _ _ _ _ _ _ => none) (m_Model_payments_B59 (sy_fix (fun _ _ _ _ => none) (m_Model_payments_B45) n45)) n59) y1 y2 y3 y5 y6 t0 t1 S = some (r, S') → W p l e (sy_rm 1 23) s m args below meth c H locs 0 0 (MQ below (sy_Qi E A r S') args s 0 0 A) (F0 m 89 ls [.int t1, .int t0]) := by
            intro y1 y2 y3 y5 y6 t0 t1 S H locs ls X hl h
            unfold m_Model_payments_J89 at h
            refine lv_iadd hx hb dX12_payments_89 ?_
            obtain ⟨x20, hx20, h⟩ := sy_b_e h
            refine sy_top hx20 ?_
            refine lv_istore (lv' := [(4, .int x20), (0, .ref (sy_ad E 392)), (1, .int y1), (2, .int y2), (3, .int y3), (5, .int y5), (6, .int y6)]) hx hb dX12_payments_90 hl (by decide) rfl (fun ls hl => ?_)
            refine lv_iload_n hx hb dX12_payments_92 rfl (lv_at hl 4 rfl) ?_
            refine lv_iload hx hb dX12_payments_93 (lv_at hl 6 rfl) ?_
            obtain ⟨r22, S21, hc23, h⟩ := sy_c_e h
            refine sy_si (rest := []) fx hA X hl.1 (c_Model_has l hc23) cv_Model_has wm_581 ⟨Nat.le_of_ble_eq_true rfl, Nat.le_of_ble_eq_true rfl, Nat.le_refl _, Nat.le_refl _⟩ rfl rfl (Nat.le_of_ble_eq_true rfl) dX12_payments_95 (fun H locs X => ?_)
            refine lv_if_eq (tgt := 135) hx hb dX12_payments_98 (by decide) (fun c24 => ?_) (fun c24 => ?_)
            · have h := sy_t c24 h
              refine lv_iload hx hb dX12_payments_135 (lv_at hl 5 rfl) ?_
              refine lv_istore (lv' := [(5, .int y5), (4, .int x20), (0, .ref (sy_ad E 392)), (1, .int y1), (2, .int y2), (3, .int y3), (6, .int y6)]) hx hb dX12_payments_137 hl (by decide) rfl (fun ls hl => ?_)
              obtain ⟨x25, hx25, h⟩ := sy_b_e h
              refine lv_iinc (v := x25) (lv' := [(6, .int x25), (5, .int y5), (4, .int x20), (0, .ref (sy_ad E 392)), (1, .int y1), (2, .int y2), (3, .int y3)]) hx hb dX12_payments_139 hl (k := 6) rfl (by rw [hx25]; rfl) (by decide) rfl (fun ls hl => ?_)
              refine lv_goto (tgt := 59) hx hb dX12_payments_142 (by decide) ?_
              exact ih59 y1 y2 y3 x20 y5 x25 S21 _ _ _ X (lv_sub hl [3, 4, 5, 6, 2, 1, 0] rfl) h
            · have h := sy_f c24 h
              refine lv_aload_n hx hb dX12_payments_101 rfl (lv_at hl 1 rfl) ?_
              refine sy_q11 fx X (sy_OModel_o ht) 34 (by decide) wm_183 (fun _ h9 => h9) rfl (sy_OModel_r34 ht) dX12_payments_102 ?_
              refine lv_iload_n hx hb dX12_payments_105 rfl (lv_at hl 4 rfl) ?_
              refine lv_iconst (v := 1) hx hb dX12_payments_106 (by decide) ?_
              refine lv_iload hx hb dX12_payments_107 (lv_at hl 6 rfl) ?_
              refine lv_ishl hx hb dX12_payments_109 ?_
              refine lv_iconst (v := (-1)) hx hb dX12_payments_110 (by decide) ?_
              refine lv_ixor hx hb dX12_payments_111 ?_
              refine lv_iand hx hb dX12_payments_112 ?_
              obtain ⟨x26, hx26, h⟩ := sy_b_e h
              refine sy_top hx26 ?_
              obtain ⟨g27, h⟩ := sy_g_e h
              refine sy_iald fx X (sy_OModel_a34 ht) g27 dX12_payments_113 ?_
              refine lv_iload hx hb dX12_payments_114 (lv_at hl 5 rfl) ?_
              refine lv_icmp_le (tgt := 135) hx hb dX12_payments_116 (by decide) (fun c28 => ?_) (fun c28 => ?_)
              · have h := sy_t c28 h
                refine lv_iload hx hb dX12_payments_135 (lv_at hl 5 rfl) ?_
                refine lv_istore (lv' := [(5, .int y5), (4, .int x20), (0, .ref (sy_ad E 392)), (1, .int y1), (2, .int y2), (3, .int y3), (6, .int y6)]) hx hb dX12_payments_137 hl (by decide) rfl (fun ls hl => ?_)
                obtain ⟨x29, hx29, h⟩ := sy_b_e h
                refine lv_iinc (v := x29) (lv' := [(6, .int x29), (5, .int y5), (4, .int x20), (0, .ref (sy_ad E 392)), (1, .int y1), (2, .int y2), (3, .int y3)]) hx hb dX12_payments_139 hl (k := 6) rfl (by rw [hx29]; rfl) (by decide) rfl (fun ls hl => ?_)
                refine lv_goto (tgt := 59) hx hb dX12_payments_142 (by decide) ?_
                exact ih59 y1 y2 y3 x20 y5 x29 S21 _ _ _ X (lv_sub hl [3, 4, 5, 6, 2, 1, 0] rfl) h
              · have h := sy_f c28 h
                refine lv_aload_n hx hb dX12_payments_119 rfl (lv_at hl 1 rfl) ?_
                refine sy_q11 fx X (sy_OModel_o ht) 34 (by decide) wm_183 (fun _ h9 => h9) rfl (sy_OModel_r34 ht) dX12_payments_120 ?_
                refine lv_iload_n hx hb dX12_payments_123 rfl (lv_at hl 4 rfl) ?_
                refine lv_iconst (v := 1) hx hb dX12_payments_124 (by decide) ?_
                refine lv_iload hx hb dX12_payments_125 (lv_at hl 6 rfl) ?_
                refine lv_ishl hx hb dX12_payments_127 ?_
                refine lv_iconst (v := (-1)) hx hb dX12_payments_128 (by decide) ?_
                refine lv_ixor hx hb dX12_payments_129 ?_
                refine lv_iand hx hb dX12_payments_130 ?_
                obtain ⟨x30, hx30, h⟩ := sy_b_e h
                refine sy_top hx30 ?_
                obtain ⟨g31, h⟩ := sy_g_e h
                refine sy_iald fx X (sy_OModel_a34 ht) g31 dX12_payments_131 ?_
                refine lv_goto (tgt := 137) hx hb dX12_payments_132 (by decide) ?_
                obtain ⟨x32, hx32, h⟩ := sy_b_e h
                refine sy_top hx32 ?_
                refine lv_istore (lv' := [(5, .int x32), (4, .int x20), (0, .ref (sy_ad E 392)), (1, .int y1), (2, .int y2), (3, .int y3), (6, .int y6)]) hx hb dX12_payments_137 hl (by decide) rfl (fun ls hl => ?_)
                obtain ⟨x33, hx33, h⟩ := sy_b_e h
                refine lv_iinc (v := x33) (lv' := [(6, .int x33), (5, .int x32), (4, .int x20), (0, .ref (sy_ad E 392)), (1, .int y1), (2, .int y2), (3, .int y3)]) hx hb dX12_payments_139 hl (k := 6) rfl (by rw [hx33]; rfl) (by decide) rfl (fun ls hl => ?_)
                refine lv_goto (tgt := 59) hx hb dX12_payments_142 (by decide) ?_
                exact ih59 y1 y2 y3 x20 x32 x33 S21 _ _ _ X (lv_sub hl [3, 4, 5, 6, 2, 1, 0] rfl) h
          intro y1 y2 y3 y4 y5 y6 S H locs ls X hl h
          have h : m_Model_payments_B59 (sy_fix (fun _ _ _ _ => none) (m_Model_payments_B45) n45) (sy_fix (fun _ _ _ _ _ _ _ => none) (m_Model_payments_B59 (sy_fix (fun _ _ _ _ => none) (m_Model_payments_B45) n45)) n59) y1 y2 y3 y4 y5 y6 S = some (r, S') := h
          unfold m_Model_payments_B59 at h
          refine lv_iload hx hb dX12_payments_59 (lv_at hl 6 rfl) ?_
          refine lv_aload_n hx hb dX12_payments_61 rfl (lv_at hl 0 rfl) ?_
          refine sy_g11 fx X (sy_OModel_o ht) 19 (by decide) wm_188 (fun _ h9 => h9) rfl dX12_payments_62 ?_
          refine lv_icmp_ge (tgt := 145) hx hb dX12_payments_65 (by decide) (fun c12 => ?_) (fun c12 => ?_)
          · have h := sy_t c12 h
            refine lv_iconst (v := 0) hx hb dX12_payments_145 (by decide) ?_
            refine lv_istore (lv' := [(6, .int 0), (0, .ref (sy_ad E 392)), (1, .int y1), (2, .int y2), (3, .int y3), (4, .int y4), (5, .int y5)]) hx hb dX12_payments_146 hl (by decide) rfl (fun ls hl => ?_)
            refine lv_iconst (v := 0) hx hb dX12_payments_148 (by decide) ?_
            refine lv_istore (lv' := [(7, .int 0), (6, .int 0), (0, .ref (sy_ad E 392)), (1, .int y1), (2, .int y2), (3, .int y3), (4, .int y4), (5, .int y5)]) hx hb dX12_payments_149 hl (by decide) rfl (fun ls hl => ?_)
            exact L_151 sy_F y1 y2 y3 y4 y5 0 0 S _ _ _ X (lv_sub hl [2, 3, 4, 5, 6, 7, 1, 0] rfl) h
          · have h := sy_f c12 h
            refine lv_iload hx hb dX12_payments_68 (lv_at hl 4 rfl) ?_
            refine lv_iload_n hx hb dX12_payments_70 rfl (lv_at hl 3 rfl) ?_
            refine lv_iload hx hb dX12_payments_71 (lv_at hl 6 rfl) ?_
            obtain ⟨r14, S13, hc15, h⟩ := sy_c_e h
            refine sy_si (rest := [.int y4]) fx hA X hl.1 (c_Model_has l hc15) cv_Model_has wm_581 ⟨Nat.le_of_ble_eq_true rfl, Nat.le_of_ble_eq_true rfl, Nat.le_refl _, Nat.le_refl _⟩ rfl rfl (Nat.le_of_ble_eq_true rfl) dX12_payments_73 (fun H locs X => ?_)
            refine lv_if_eq (tgt := 88) hx hb dX12_payments_76 (by decide) (fun c16 => ?_) (fun c16 => ?_)
            · have h := sy_t c16 h
              refine lv_iconst (v := 0) hx hb dX12_payments_88 (by decide) ?_
              exact J_89 y1 y2 y3 y5 y6 y4 0 S13 _ _ _ X (lv_sub hl [0, 1, 2, 3, 5, 6] rfl) h
            · have h := sy_f c16 h
              refine lv_aload_n hx hb dX12_payments_79 rfl (lv_at hl 0 rfl) ?_
              refine lv_iload hx hb dX12_payments_80 (lv_at hl 6 rfl) ?_
              obtain ⟨r18, S17, hc19, h⟩ := sy_c_e h
              refine sy_vi (rest := [.int y4]) fx hA X hl.1 (sy_OModel_o ht) (sy_en11 (sy_OModel_o ht).2) rfl (c_Model_owesOf l ht hc19) cv_Model_owesOf wm_870 ⟨Nat.le_of_ble_eq_true rfl, Nat.le_of_ble_eq_true rfl, Nat.le_refl _, Nat.le_refl _⟩ rfl rfl (Nat.le_of_ble_eq_true rfl) dX12_payments_82 (fun H locs X => ?_)
              refine lv_goto (tgt := 89) hx hb dX12_payments_85 (by decide) ?_
              exact J_89 y1 y2 y3 y5 y6 y4 r18 S17 _ _ _ X (lv_sub hl [0, 1, 2, 3, 5, 6] rfl) h
      intro y1 y2 y3 S H locs ls X hl h
      have h : m_Model_payments_B45 (sy_fix (fun _ _ _ _ => none) (m_Model_payments_B45) n45) y1 y2 y3 S = some (r, S') := h
      unfold m_Model_payments_B45 at h
      refine lv_iload_n hx hb dX12_payments_45 rfl (lv_at hl 3 rfl) ?_
      refine lv_iload_n hx hb dX12_payments_46 rfl (lv_at hl 2 rfl) ?_
      refine lv_icmp_gt (tgt := 231) hx hb dX12_payments_47 (by decide) (fun c11 => ?_) (fun c11 => ?_)
      · have h := sy_t c11 h
        refine lv_iload_n hx hb dX12_payments_231 rfl (lv_at hl 2 rfl) ?_
        refine lv_istore_n (lv' := [(3, .int y2), (0, .ref (sy_ad E 392)), (1, .int y1), (2, .int y2)]) hx hb dX12_payments_232 rfl hl (by decide) rfl (fun ls hl => ?_)
        refine lv_iconst (v := 0) hx hb dX12_payments_233 (by decide) ?_
        refine lv_istore (lv' := [(4, .int 0), (3, .int y2), (0, .ref (sy_ad E 392)), (1, .int y1), (2, .int y2)]) hx hb dX12_payments_234 hl (by decide) rfl (fun ls hl => ?_)
        exact L_236 sy_F y1 y2 0 S _ _ _ X (lv_sub hl [2, 3, 1, 0] rfl) h
      · have h := sy_f c11 h
        refine lv_iconst (v := 0) hx hb dX12_payments_50 (by decide) ?_
        refine lv_istore (lv' := [(4, .int 0), (0, .ref (sy_ad E 392)), (1, .int y1), (2, .int y2), (3, .int y3)]) hx hb dX12_payments_51 hl (by decide) rfl (fun ls hl => ?_)
        refine lv_iconst (v := 0) hx hb dX12_payments_53 (by decide) ?_
        refine lv_istore (lv' := [(5, .int 0), (4, .int 0), (0, .ref (sy_ad E 392)), (1, .int y1), (2, .int y2), (3, .int y3)]) hx hb dX12_payments_54 hl (by decide) rfl (fun ls hl => ?_)
        refine lv_iconst (v := 0) hx hb dX12_payments_56 (by decide) ?_
        refine lv_istore (lv' := [(6, .int 0), (5, .int 0), (4, .int 0), (0, .ref (sy_ad E 392)), (1, .int y1), (2, .int y2), (3, .int y3)]) hx hb dX12_payments_57 hl (by decide) rfl (fun ls hl => ?_)
        exact L_59 sy_F y1 y2 y3 0 0 0 S _ _ _ X (lv_sub hl [3, 4, 5, 6, 2, 1, 0] rfl) h
  have L_4 : ∀ (n4 : Nat) (y1 y2 : Int32) (S : sy_St) (H : Heap) (locs : List Loc) (ls : Array Slot), sy_Wd E A s S H locs → lv_has ls 8 [(0, .ref (sy_ad E 392)), (1, .int y1), (2, .int y2)] → sy_fix (fun _ _ _ => none) (m_Model_payments_B4) n4 y1 y2 S = some (r, S') → W p l e (sy_rm 1 23) s m args below meth c H locs 0 0 (MQ below (sy_Qi E A r S') args s 0 0 A) (F0 m 4 ls []) := by
    intro n4
    induction n4 with
    | zero => intro y1 y2 S H locs ls X hl h; have h9 : (none : sy_R) = some (r, S') := h; cases h9
    | succ n4 ih4 =>
      intro y1 y2 S H locs ls X hl h
      have h : m_Model_payments_B4 (sy_fix (fun _ _ _ => none) (m_Model_payments_B4) n4) y1 y2 S = some (r, S') := h
      unfold m_Model_payments_B4 at h
      refine lv_iload_n hx hb dX12_payments_4 rfl (lv_at hl 2 rfl) ?_
      refine lv_aload_n hx hb dX12_payments_5 rfl (lv_at hl 0 rfl) ?_
      refine sy_g11 fx X (sy_OModel_o ht) 19 (by decide) wm_188 (fun _ h9 => h9) rfl dX12_payments_6 ?_
      refine lv_icmp_ge (tgt := 34) hx hb dX12_payments_9 (by decide) (fun c1 => ?_) (fun c1 => ?_)
      · have h := sy_t c1 h
        refine lv_iconst (v := 1) hx hb dX12_payments_34 (by decide) ?_
        refine lv_aload_n hx hb dX12_payments_35 rfl (lv_at hl 0 rfl) ?_
        refine sy_g11 fx X (sy_OModel_o ht) 19 (by decide) wm_188 (fun _ h9 => h9) rfl dX12_payments_36 ?_
        refine lv_ishl hx hb dX12_payments_39 ?_
        refine lv_iconst (v := 1) hx hb dX12_payments_40 (by decide) ?_
        refine lv_isub hx hb dX12_payments_41 ?_
        obtain ⟨x2, hx2, h⟩ := sy_b_e h
        refine sy_top hx2 ?_
        refine lv_istore_n (lv' := [(2, .int x2), (0, .ref (sy_ad E 392)), (1, .int y1)]) hx hb dX12_payments_42 rfl hl (by decide) rfl (fun ls hl => ?_)
        refine lv_iconst (v := 0) hx hb dX12_payments_43 (by decide) ?_
        refine lv_istore_n (lv' := [(3, .int 0), (2, .int x2), (0, .ref (sy_ad E 392)), (1, .int y1)]) hx hb dX12_payments_44 rfl hl (by decide) rfl (fun ls hl => ?_)
        exact L_45 sy_F y1 x2 0 S _ _ _ X (lv_sub hl [2, 3, 1, 0] rfl) h
      · have h := sy_f c1 h
        refine lv_iload_n hx hb dX12_payments_12 rfl (lv_at hl 1 rfl) ?_
        refine lv_aload_n hx hb dX12_payments_13 rfl (lv_at hl 0 rfl) ?_
        refine lv_iload_n hx hb dX12_payments_14 rfl (lv_at hl 2 rfl) ?_
        obtain ⟨r4, S3, hc5, h⟩ := sy_c_e h
        refine sy_vi (rest := [.int y1]) fx hA X hl.1 (sy_OModel_o ht) (sy_en11 (sy_OModel_o ht).2) rfl (c_Model_owesOf l ht hc5) cv_Model_owesOf wm_870 ⟨Nat.le_of_ble_eq_true rfl, Nat.le_of_ble_eq_true rfl, Nat.le_refl _, Nat.le_refl _⟩ rfl rfl (Nat.le_of_ble_eq_true rfl) dX12_payments_15 (fun H locs X => ?_)
        refine lv_if_ne (tgt := 25) hx hb dX12_payments_18 (by decide) (fun c6 => ?_) (fun c6 => ?_)
        · have h := sy_f c6 h
          refine lv_iconst (v := 1) hx hb dX12_payments_25 (by decide) ?_
          refine lv_iadd hx hb dX12_payments_26 ?_
          obtain ⟨x7, hx7, h⟩ := sy_b_e h
          refine sy_top hx7 ?_
          refine lv_istore_n (lv' := [(1, .int x7), (0, .ref (sy_ad E 392)), (2, .int y2)]) hx hb dX12_payments_27 rfl hl (by decide) rfl (fun ls hl => ?_)
          obtain ⟨x8, hx8, h⟩ := sy_b_e h
          refine lv_iinc (v := x8) (lv' := [(2, .int x8), (1, .int x7), (0, .ref (sy_ad E 392))]) hx hb dX12_payments_28 hl (k := 2) rfl (by rw [hx8]; rfl) (by decide) rfl (fun ls hl => ?_)
          refine lv_goto (tgt := 4) hx hb dX12_payments_31 (by decide) ?_
          exact ih4 x7 x8 S3 _ _ _ X (lv_sub hl [2, 1, 0] rfl) h
        · have h := sy_t c6 h
          refine lv_iconst (v := 0) hx hb dX12_payments_21 (by decide) ?_
          refine lv_goto (tgt := 26) hx hb dX12_payments_22 (by decide) ?_
          refine lv_iadd hx hb dX12_payments_26 ?_
          obtain ⟨x9, hx9, h⟩ := sy_b_e h
          refine sy_top hx9 ?_
          refine lv_istore_n (lv' := [(1, .int x9), (0, .ref (sy_ad E 392)), (2, .int y2)]) hx hb dX12_payments_27 rfl hl (by decide) rfl (fun ls hl => ?_)
          obtain ⟨x10, hx10, h⟩ := sy_b_e h
          refine lv_iinc (v := x10) (lv' := [(2, .int x10), (1, .int x9), (0, .ref (sy_ad E 392))]) hx hb dX12_payments_28 hl (k := 2) rfl (by rw [hx10]; rfl) (by decide) rfl (fun ls hl => ?_)
          refine lv_goto (tgt := 4) hx hb dX12_payments_31 (by decide) ?_
          exact ih4 x9 x10 S3 _ _ _ X (lv_sub hl [2, 1, 0] rfl) h
  unfold m_Model_payments at h
  refine lv_iconst (v := 0) hx hb dX12_payments_0 (by decide) ?_
  refine lv_istore_n (lv' := [(1, .int 0), (0, .ref (sy_ad E 392))]) hx hb dX12_payments_1 rfl hl (by decide) rfl (fun ls hl => ?_)
  refine lv_iconst (v := 0) hx hb dX12_payments_2 (by decide) ?_
  refine lv_istore_n (lv' := [(2, .int 0), (1, .int 0), (0, .ref (sy_ad E 392))]) hx hb dX12_payments_3 rfl hl (by decide) rfl (fun ls hl => ?_)
  exact L_4 sy_F 0 0 S _ _ _ X (lv_sub hl [2, 1, 0] rfl) h
def m_Model_person (p0 : Int32) (p1 : Int32) (S : sy_St) : sy_R := sy_c (m_Model_isOne p0 S) fun r2 S1 => if r2 = 0 then (some ((-1000000001), S1)) else (if p1 = 0 then (sy_b ((5 * p0) + p1 : Int32) fun x6 => sy_g (sy_in x6 30) <| some (S1 398 x6.toNatClampNeg, S1)) else if p1 = 1 then (sy_b ((5 * p0) + p1 : Int32) fun x9 => sy_g (sy_in x9 30) <| some (S1 398 x9.toNatClampNeg, S1)) else if p1 = 2 then (sy_b ((5 * p0) + p1 : Int32) fun x12 => sy_g (sy_in x12 30) <| some (S1 398 x12.toNatClampNeg, S1)) else if p1 = 3 then (sy_b ((5 * p0) + p1 : Int32) fun x15 => sy_g (sy_in x15 30) <| some (S1 398 x15.toNatClampNeg, S1)) else if p1 = 4 then (sy_b ((5 * p0) + p1 : Int32) fun x18 => sy_g (sy_in x18 30) <| some (S1 398 x18.toNatClampNeg, S1)) else if p1 = 5 then (sy_b (7 + p0 : Int32) fun x21 => sy_g (sy_in x21 31) <| some (S1 400 x21.toNatClampNeg, S1)) else if p1 = 6 then (sy_b (13 + p0 : Int32) fun x24 => sy_g (sy_in x24 31) <| some (S1 400 x24.toNatClampNeg, S1)) else if p1 = 7 then (sy_b (25 + p0 : Int32) fun x27 => sy_g (sy_in x27 31) <| some (S1 400 x27.toNatClampNeg, S1)) else if p1 = 8 then (sy_c (m_Model_forceOf 400 31 p0 S1) fun r31 S30 => some (r31, S30)) else if p1 = 9 then (sy_b (19 + p0 : Int32) fun x34 => sy_g (sy_in x34 31) <| some (S1 400 x34.toNatClampNeg, S1)) else (some ((-1000000002), S1)))
theorem cv_Model_person : sy_cV RX12 yX12_person cX12_person 3 (some .int) 2 := ⟨wm_454, wm_455, wm_5, wm_456, by decide +kernel⟩
set_option maxRecDepth 100000 in
set_option maxHeartbeats 40000000 in
theorem c_Model_person (l : Launch) {E : sy_ET} (ht : sy_OModel E) {p0 : Int32} {p1 : Int32} {S S' : sy_St} {r : Int32} (h : m_Model_person p0 p1 S = some (r, S')) : sy_MI l yX12_person cX12_person 3 (some .int) 2 45 [.ref (sy_ad E 392), .int p0, .int p1] E S r S' := by
  refine sy_MI_of RX12 pn_12 rfl (Nat.le_of_ble_eq_true rfl) (fun p e s m args below meth c A ls fx hr hlk hA X hl => ?_)
  have hx := fx.1
  have hb := fx.2.1
  have hown := fx.2.2.2.1
  have hts := fx.2.2.2.2
  have hl : lv_has ls 3 [(0, .ref (sy_ad E 392)), (1, .int p0), (2, .int p1)] := hl
  unfold m_Model_person at h
  refine lv_aload_n hx hb dX12_person_0 rfl (lv_at hl 0 rfl) ?_
  refine lv_iload_n hx hb dX12_person_1 rfl (lv_at hl 1 rfl) ?_
  obtain ⟨r2, S1, hc3, h⟩ := sy_c_e h
  refine sy_vi (rest := []) fx hA X hl.1 (sy_OModel_o ht) (sy_en11 (sy_OModel_o ht).2) rfl (c_Model_isOne l ht hc3) cv_Model_isOne wm_458 ⟨Nat.le_of_ble_eq_true rfl, Nat.le_of_ble_eq_true rfl, Nat.le_refl _, Nat.le_refl _⟩ rfl rfl (Nat.le_of_ble_eq_true rfl) dX12_person_2 (fun H locs X => ?_)
  refine lv_if_ne (tgt := 11) hx hb dX12_person_5 (by decide) (fun c4 => ?_) (fun c4 => ?_)
  · have h := sy_f c4 h
    refine lv_iload_n hx hb dX12_person_11 rfl (lv_at hl 2 rfl) ?_
    rcases Decidable.em (p1 = 0) with c5 | c5
    · have h := sy_t c5 h
      refine sy_top c5.symm ?_
      refine lv_tableIn (off := 56) (tgt := 68) hx hb dX12_person_12 (by decide) (by decide) rfl (by decide) ?_
      refine lv_aload_n hx hb dX12_person_68 rfl (lv_at hl 0 rfl) ?_
      refine sy_q11 fx X (sy_OModel_o ht) 20 (by decide) wm_172 (fun _ h9 => h9) rfl (sy_OModel_r20 ht) dX12_person_69 ?_
      refine lv_iconst (v := 5) hx hb dX12_person_72 (by decide) ?_
      refine lv_iload_n hx hb dX12_person_73 rfl (lv_at hl 1 rfl) ?_
      refine lv_imul hx hb dX12_person_74 ?_
      refine lv_iload_n hx hb dX12_person_75 rfl (lv_at hl 2 rfl) ?_
      refine lv_iadd hx hb dX12_person_76 ?_
      obtain ⟨x6, hx6, h⟩ := sy_b_e h
      refine sy_top hx6 ?_
      obtain ⟨g7, h⟩ := sy_g_e h
      refine sy_iald fx X (sy_OModel_a20 ht) g7 dX12_person_77 ?_
      exact sy_iret fx X hr hlk h dX12_person_78
    · have h := sy_f c5 h
      rcases Decidable.em (p1 = 1) with c8 | c8
      · have h := sy_t c8 h
        refine sy_top c8.symm ?_
        refine lv_tableIn (off := 56) (tgt := 68) hx hb dX12_person_12 (by decide) (by decide) rfl (by decide) ?_
        refine lv_aload_n hx hb dX12_person_68 rfl (lv_at hl 0 rfl) ?_
        refine sy_q11 fx X (sy_OModel_o ht) 20 (by decide) wm_172 (fun _ h9 => h9) rfl (sy_OModel_r20 ht) dX12_person_69 ?_
        refine lv_iconst (v := 5) hx hb dX12_person_72 (by decide) ?_
        refine lv_iload_n hx hb dX12_person_73 rfl (lv_at hl 1 rfl) ?_
        refine lv_imul hx hb dX12_person_74 ?_
        refine lv_iload_n hx hb dX12_person_75 rfl (lv_at hl 2 rfl) ?_
        refine lv_iadd hx hb dX12_person_76 ?_
        obtain ⟨x9, hx9, h⟩ := sy_b_e h
        refine sy_top hx9 ?_
        obtain ⟨g10, h⟩ := sy_g_e h
        refine sy_iald fx X (sy_OModel_a20 ht) g10 dX12_person_77 ?_
        exact sy_iret fx X hr hlk h dX12_person_78
      · have h := sy_f c8 h
        rcases Decidable.em (p1 = 2) with c11 | c11
        · have h := sy_t c11 h
          refine sy_top c11.symm ?_
          refine lv_tableIn (off := 56) (tgt := 68) hx hb dX12_person_12 (by decide) (by decide) rfl (by decide) ?_
          refine lv_aload_n hx hb dX12_person_68 rfl (lv_at hl 0 rfl) ?_
          refine sy_q11 fx X (sy_OModel_o ht) 20 (by decide) wm_172 (fun _ h9 => h9) rfl (sy_OModel_r20 ht) dX12_person_69 ?_
          refine lv_iconst (v := 5) hx hb dX12_person_72 (by decide) ?_
          refine lv_iload_n hx hb dX12_person_73 rfl (lv_at hl 1 rfl) ?_
          refine lv_imul hx hb dX12_person_74 ?_
          refine lv_iload_n hx hb dX12_person_75 rfl (lv_at hl 2 rfl) ?_
          refine lv_iadd hx hb dX12_person_76 ?_
          obtain ⟨x12, hx12, h⟩ := sy_b_e h
          refine sy_top hx12 ?_
          obtain ⟨g13, h⟩ := sy_g_e h
          refine sy_iald fx X (sy_OModel_a20 ht) g13 dX12_person_77 ?_
          exact sy_iret fx X hr hlk h dX12_person_78
        · have h := sy_f c11 h
          rcases Decidable.em (p1 = 3) with c14 | c14
          · have h := sy_t c14 h
            refine sy_top c14.symm ?_
            refine lv_tableIn (off := 56) (tgt := 68) hx hb dX12_person_12 (by decide) (by decide) rfl (by decide) ?_
            refine lv_aload_n hx hb dX12_person_68 rfl (lv_at hl 0 rfl) ?_
            refine sy_q11 fx X (sy_OModel_o ht) 20 (by decide) wm_172 (fun _ h9 => h9) rfl (sy_OModel_r20 ht) dX12_person_69 ?_
            refine lv_iconst (v := 5) hx hb dX12_person_72 (by decide) ?_
            refine lv_iload_n hx hb dX12_person_73 rfl (lv_at hl 1 rfl) ?_
            refine lv_imul hx hb dX12_person_74 ?_
            refine lv_iload_n hx hb dX12_person_75 rfl (lv_at hl 2 rfl) ?_
            refine lv_iadd hx hb dX12_person_76 ?_
            obtain ⟨x15, hx15, h⟩ := sy_b_e h
            refine sy_top hx15 ?_
            obtain ⟨g16, h⟩ := sy_g_e h
            refine sy_iald fx X (sy_OModel_a20 ht) g16 dX12_person_77 ?_
            exact sy_iret fx X hr hlk h dX12_person_78
          · have h := sy_f c14 h
            rcases Decidable.em (p1 = 4) with c17 | c17
            · have h := sy_t c17 h
              refine sy_top c17.symm ?_
              refine lv_tableIn (off := 56) (tgt := 68) hx hb dX12_person_12 (by decide) (by decide) rfl (by decide) ?_
              refine lv_aload_n hx hb dX12_person_68 rfl (lv_at hl 0 rfl) ?_
              refine sy_q11 fx X (sy_OModel_o ht) 20 (by decide) wm_172 (fun _ h9 => h9) rfl (sy_OModel_r20 ht) dX12_person_69 ?_
              refine lv_iconst (v := 5) hx hb dX12_person_72 (by decide) ?_
              refine lv_iload_n hx hb dX12_person_73 rfl (lv_at hl 1 rfl) ?_
              refine lv_imul hx hb dX12_person_74 ?_
              refine lv_iload_n hx hb dX12_person_75 rfl (lv_at hl 2 rfl) ?_
              refine lv_iadd hx hb dX12_person_76 ?_
              obtain ⟨x18, hx18, h⟩ := sy_b_e h
              refine sy_top hx18 ?_
              obtain ⟨g19, h⟩ := sy_g_e h
              refine sy_iald fx X (sy_OModel_a20 ht) g19 dX12_person_77 ?_
              exact sy_iret fx X hr hlk h dX12_person_78
            · have h := sy_f c17 h
              rcases Decidable.em (p1 = 5) with c20 | c20
              · have h := sy_t c20 h
                refine sy_top c20.symm ?_
                refine lv_tableIn (off := 67) (tgt := 79) hx hb dX12_person_12 (by decide) (by decide) rfl (by decide) ?_
                refine lv_aload_n hx hb dX12_person_79 rfl (lv_at hl 0 rfl) ?_
                refine sy_q11 fx X (sy_OModel_o ht) 22 (by decide) wm_174 (fun _ h9 => h9) rfl (sy_OModel_r22 ht) dX12_person_80 ?_
                refine lv_bipush (v := 7) hx hb dX12_person_83 (by decide) ?_
                refine lv_iload_n hx hb dX12_person_85 rfl (lv_at hl 1 rfl) ?_
                refine lv_iadd hx hb dX12_person_86 ?_
                obtain ⟨x21, hx21, h⟩ := sy_b_e h
                refine sy_top hx21 ?_
                obtain ⟨g22, h⟩ := sy_g_e h
                refine sy_iald fx X (sy_OModel_a22 ht) g22 dX12_person_87 ?_
                exact sy_iret fx X hr hlk h dX12_person_88
              · have h := sy_f c20 h
                rcases Decidable.em (p1 = 6) with c23 | c23
                · have h := sy_t c23 h
                  refine sy_top c23.symm ?_
                  refine lv_tableIn (off := 77) (tgt := 89) hx hb dX12_person_12 (by decide) (by decide) rfl (by decide) ?_
                  refine lv_aload_n hx hb dX12_person_89 rfl (lv_at hl 0 rfl) ?_
                  refine sy_q11 fx X (sy_OModel_o ht) 22 (by decide) wm_174 (fun _ h9 => h9) rfl (sy_OModel_r22 ht) dX12_person_90 ?_
                  refine lv_bipush (v := 13) hx hb dX12_person_93 (by decide) ?_
                  refine lv_iload_n hx hb dX12_person_95 rfl (lv_at hl 1 rfl) ?_
                  refine lv_iadd hx hb dX12_person_96 ?_
                  obtain ⟨x24, hx24, h⟩ := sy_b_e h
                  refine sy_top hx24 ?_
                  obtain ⟨g25, h⟩ := sy_g_e h
                  refine sy_iald fx X (sy_OModel_a22 ht) g25 dX12_person_97 ?_
                  exact sy_iret fx X hr hlk h dX12_person_98
                · have h := sy_f c23 h
                  rcases Decidable.em (p1 = 7) with c26 | c26
                  · have h := sy_t c26 h
                    refine sy_top c26.symm ?_
                    refine lv_tableIn (off := 87) (tgt := 99) hx hb dX12_person_12 (by decide) (by decide) rfl (by decide) ?_
                    refine lv_aload_n hx hb dX12_person_99 rfl (lv_at hl 0 rfl) ?_
                    refine sy_q11 fx X (sy_OModel_o ht) 22 (by decide) wm_174 (fun _ h9 => h9) rfl (sy_OModel_r22 ht) dX12_person_100 ?_
                    refine lv_bipush (v := 25) hx hb dX12_person_103 (by decide) ?_
                    refine lv_iload_n hx hb dX12_person_105 rfl (lv_at hl 1 rfl) ?_
                    refine lv_iadd hx hb dX12_person_106 ?_
                    obtain ⟨x27, hx27, h⟩ := sy_b_e h
                    refine sy_top hx27 ?_
                    obtain ⟨g28, h⟩ := sy_g_e h
                    refine sy_iald fx X (sy_OModel_a22 ht) g28 dX12_person_107 ?_
                    exact sy_iret fx X hr hlk h dX12_person_108
                  · have h := sy_f c26 h
                    rcases Decidable.em (p1 = 8) with c29 | c29
                    · have h := sy_t c29 h
                      refine sy_top c29.symm ?_
                      refine lv_tableIn (off := 97) (tgt := 109) hx hb dX12_person_12 (by decide) (by decide) rfl (by decide) ?_
                      refine lv_aload_n hx hb dX12_person_109 rfl (lv_at hl 0 rfl) ?_
                      refine lv_aload_n hx hb dX12_person_110 rfl (lv_at hl 0 rfl) ?_
                      refine sy_q11 fx X (sy_OModel_o ht) 22 (by decide) wm_174 (fun _ h9 => h9) rfl (sy_OModel_r22 ht) dX12_person_111 ?_
                      refine lv_iload_n hx hb dX12_person_114 rfl (lv_at hl 1 rfl) ?_
                      obtain ⟨r31, S30, hc32, h⟩ := sy_c_e h
                      refine sy_vi (rest := []) fx hA X hl.1 (sy_OModel_o ht) (sy_en11 (sy_OModel_o ht).2) rfl (c_Model_forceOf l ht (sy_OModel_a22 ht) hc32) cv_Model_forceOf wm_429 ⟨Nat.le_of_ble_eq_true rfl, Nat.le_of_ble_eq_true rfl, Nat.le_refl _, Nat.le_refl _⟩ rfl rfl (Nat.le_of_ble_eq_true rfl) dX12_person_115 (fun H locs X => ?_)
                      exact sy_iret fx X hr hlk h dX12_person_118
                    · have h := sy_f c29 h
                      rcases Decidable.em (p1 = 9) with c33 | c33
                      · have h := sy_t c33 h
                        refine sy_top c33.symm ?_
                        refine lv_tableIn (off := 107) (tgt := 119) hx hb dX12_person_12 (by decide) (by decide) rfl (by decide) ?_
                        refine lv_aload_n hx hb dX12_person_119 rfl (lv_at hl 0 rfl) ?_
                        refine sy_q11 fx X (sy_OModel_o ht) 22 (by decide) wm_174 (fun _ h9 => h9) rfl (sy_OModel_r22 ht) dX12_person_120 ?_
                        refine lv_bipush (v := 19) hx hb dX12_person_123 (by decide) ?_
                        refine lv_iload_n hx hb dX12_person_125 rfl (lv_at hl 1 rfl) ?_
                        refine lv_iadd hx hb dX12_person_126 ?_
                        obtain ⟨x34, hx34, h⟩ := sy_b_e h
                        refine sy_top hx34 ?_
                        obtain ⟨g35, h⟩ := sy_g_e h
                        refine sy_iald fx X (sy_OModel_a22 ht) g35 dX12_person_127 ?_
                        exact sy_iret fx X hr hlk h dX12_person_128
                      · have h := sy_f c33 h
                        refine lv_tableOut (tgt := 129) hx hb dX12_person_12 (by have ec5 := sy_ne_toInt c5 (v := 0) (n := 0) (by decide); have ec8 := sy_ne_toInt c8 (v := 1) (n := 1) (by decide); have ec11 := sy_ne_toInt c11 (v := 2) (n := 2) (by decide); have ec14 := sy_ne_toInt c14 (v := 3) (n := 3) (by decide); have ec17 := sy_ne_toInt c17 (v := 4) (n := 4) (by decide); have ec20 := sy_ne_toInt c20 (v := 5) (n := 5) (by decide); have ec23 := sy_ne_toInt c23 (v := 6) (n := 6) (by decide); have ec26 := sy_ne_toInt c26 (v := 7) (n := 7) (by decide); have ec29 := sy_ne_toInt c29 (v := 8) (n := 8) (by decide); have ec33 := sy_ne_toInt c33 (v := 9) (n := 9) (by decide); omega) (by decide) ?_
                        refine lv_ldc (v := (-1000000002)) hx hb hown (hts _ wm_208) dX12_person_129 ?_
                        exact sy_iret fx X hr hlk h dX12_person_131
  · have h := sy_t c4 h
    refine lv_ldc (v := (-1000000001)) hx hb hown (hts _ wm_457) dX12_person_8 ?_
    exact sy_iret fx X hr hlk h dX12_person_10
def m_Model_pillar_B91 (kk91 : Int32 → Int32 → Int32 → Int32 → sy_St → sy_R) (y1 : Int32) (y2 : Int32) (y3 : Int32) (y4 : Int32) (S : sy_St) : sy_R := if y2 ≤ y4 then (some (y3 - (S 401 ((2 : Int32).toNatClampNeg)), S)) else (sy_c (m_Model_pass 401 31 y1 S) fun r27 S26 => sy_b (y4 + 1 : Int32) fun x29 => kk91 y1 y2 y3 x29 S26)
def m_Model_pillar_B48 (kk48 : Int32 → Int32 → Int32 → sy_St → sy_R) (y1 : Int32) (y2 : Int32) (y3 : Int32) (S : sy_St) : sy_R := if y2 ≤ y3 then (sy_b (S 401 ((2 : Int32).toNatClampNeg) : Int32) fun x17 => sy_c (m_Model_copy 400 31 401 31 0 0 S) fun r19 S18 => sy_fix (fun _ _ _ _ _ => none) (m_Model_pillar_B91) sy_F y1 y2 x17 0 S18) else (sy_c (m_Model_pass 401 31 0 S) fun r22 S21 => sy_b (y3 + 1 : Int32) fun x24 => kk48 y1 y2 x24 S21)
def m_Model_pillar (p0 : Int32) (p1 : Int32) (S : sy_St) : sy_R := sy_c (m_Model_in p0 1 30 S) fun r2 S1 => if r2 = 0 then (some ((-1000000002), S1)) else (sy_c (m_Model_in p1 1 40 S1) fun r6 S5 => if r6 = 0 then (some ((-1000000002), S5)) else (sy_c (m_Model_isHere S5) fun r10 S9 => if r10 = 0 then (some ((-1000000003), S9)) else (sy_c (m_Model_copy 400 31 401 31 0 0 S9) fun r14 S13 => sy_fix (fun _ _ _ _ => none) (m_Model_pillar_B48) sy_F p0 p1 0 S13)))
theorem cv_Model_pillar : sy_cV RX12 yX12_pillar cX12_pillar 5 (some .int) 2 := ⟨wm_965, wm_966, wm_5, wm_967, by decide +kernel⟩
set_option maxRecDepth 100000 in
set_option maxHeartbeats 40000000 in
theorem c_Model_pillar (l : Launch) {E : sy_ET} (ht : sy_OModel E) {p0 : Int32} {p1 : Int32} {S S' : sy_St} {r : Int32} (h : m_Model_pillar p0 p1 S = some (r, S')) : sy_MI l yX12_pillar cX12_pillar 5 (some .int) 4 92 [.ref (sy_ad E 392), .int p0, .int p1] E S r S' := by
  refine sy_MI_of RX12 pn_12 rfl (Nat.le_of_ble_eq_true rfl) (fun p e s m args below meth c A ls fx hr hlk hA X hl => ?_)
  have hx := fx.1
  have hb := fx.2.1
  have hown := fx.2.2.2.1
  have hts := fx.2.2.2.2
  have hl : lv_has ls 5 [(0, .ref (sy_ad E 392)), (1, .int p0), (2, .int p1)] := hl
  have L_91 : ∀ (n91 : Nat) (y1 y2 y3 y4 : Int32) (S : sy_St) (H : Heap) (locs : List Loc) (ls : Array Slot), sy_Wd E A s S H locs → lv_has ls 5 [(0, .ref (sy_ad E 392)), (1, .int y1), (2, .int y2), (3, .int y3), (4, .int y4)] → sy_fix (fun _ _ _ _ _ => none) (m_Model_pillar_B91) n91 y1 y2 y3 y4 S = some (r, S') → W p l e (sy_rm 4 92) s m args below meth c H locs 0 0 (MQ below (sy_Qi E A r S') args s 0 0 A) (F0 m 91 ls []) := by
    intro n91
    induction n91 with
    | zero => intro y1 y2 y3 y4 S H locs ls X hl h; have h9 : (none : sy_R) = some (r, S') := h; cases h9
    | succ n91 ih91 =>
      intro y1 y2 y3 y4 S H locs ls X hl h
      have h : m_Model_pillar_B91 (sy_fix (fun _ _ _ _ _ => none) (m_Model_pillar_B91) n91) y1 y2 y3 y4 S = some (r, S') := h
      unfold m_Model_pillar_B91 at h
      refine lv_iload hx hb dX12_pillar_91 (lv_at hl 4 rfl) ?_
      refine lv_iload_n hx hb dX12_pillar_93 rfl (lv_at hl 2 rfl) ?_
      refine lv_icmp_ge (tgt := 112) hx hb dX12_pillar_94 (by decide) (fun c25 => ?_) (fun c25 => ?_)
      · have h := sy_t c25 h
        refine lv_iload_n hx hb dX12_pillar_112 rfl (lv_at hl 3 rfl) ?_
        refine lv_aload_n hx hb dX12_pillar_113 rfl (lv_at hl 0 rfl) ?_
        refine sy_q11 fx X (sy_OModel_o ht) 23 (by decide) wm_175 (fun _ h9 => h9) rfl (sy_OModel_r23 ht) dX12_pillar_114 ?_
        refine lv_iconst (v := 2) hx hb dX12_pillar_117 (by decide) ?_
        refine sy_iald fx X (sy_OModel_a23 ht) (by decide) dX12_pillar_118 ?_
        refine lv_isub hx hb dX12_pillar_119 ?_
        exact sy_iret fx X hr hlk h dX12_pillar_120
      · have h := sy_f c25 h
        refine lv_aload_n hx hb dX12_pillar_97 rfl (lv_at hl 0 rfl) ?_
        refine lv_aload_n hx hb dX12_pillar_98 rfl (lv_at hl 0 rfl) ?_
        refine sy_q11 fx X (sy_OModel_o ht) 23 (by decide) wm_175 (fun _ h9 => h9) rfl (sy_OModel_r23 ht) dX12_pillar_99 ?_
        refine lv_iload_n hx hb dX12_pillar_102 rfl (lv_at hl 1 rfl) ?_
        obtain ⟨r27, S26, hc28, h⟩ := sy_c_e h
        refine sy_vv (rest := []) fx hA X hl.1 (sy_OModel_o ht) (sy_en11 (sy_OModel_o ht).2) rfl (c_Model_pass l ht (sy_OModel_a23 ht) hc28) cv_Model_pass wm_542 ⟨Nat.le_of_ble_eq_true rfl, Nat.le_of_ble_eq_true rfl, Nat.le_refl _, Nat.le_refl _⟩ rfl rfl (Nat.le_of_ble_eq_true rfl) dX12_pillar_103 (fun H locs X => ?_)
        obtain ⟨x29, hx29, h⟩ := sy_b_e h
        refine lv_iinc (v := x29) (lv' := [(4, .int x29), (0, .ref (sy_ad E 392)), (1, .int y1), (2, .int y2), (3, .int y3)]) hx hb dX12_pillar_106 hl (k := 4) rfl (by rw [hx29]; rfl) (by decide) rfl (fun ls hl => ?_)
        refine lv_goto (tgt := 91) hx hb dX12_pillar_109 (by decide) ?_
        exact ih91 y1 y2 y3 x29 S26 _ _ _ X (lv_sub hl [1, 2, 3, 4, 0] rfl) h
  have L_48 : ∀ (n48 : Nat) (y1 y2 y3 : Int32) (S : sy_St) (H : Heap) (locs : List Loc) (ls : Array Slot), sy_Wd E A s S H locs → lv_has ls 5 [(0, .ref (sy_ad E 392)), (1, .int y1), (2, .int y2), (3, .int y3)] → sy_fix (fun _ _ _ _ => none) (m_Model_pillar_B48) n48 y1 y2 y3 S = some (r, S') → W p l e (sy_rm 4 92) s m args below meth c H locs 0 0 (MQ below (sy_Qi E A r S') args s 0 0 A) (F0 m 48 ls []) := by
    intro n48
    induction n48 with
    | zero => intro y1 y2 y3 S H locs ls X hl h; have h9 : (none : sy_R) = some (r, S') := h; cases h9
    | succ n48 ih48 =>
      intro y1 y2 y3 S H locs ls X hl h
      have h : m_Model_pillar_B48 (sy_fix (fun _ _ _ _ => none) (m_Model_pillar_B48) n48) y1 y2 y3 S = some (r, S') := h
      unfold m_Model_pillar_B48 at h
      refine lv_iload_n hx hb dX12_pillar_48 rfl (lv_at hl 3 rfl) ?_
      refine lv_iload_n hx hb dX12_pillar_49 rfl (lv_at hl 2 rfl) ?_
      refine lv_icmp_ge (tgt := 68) hx hb dX12_pillar_50 (by decide) (fun c16 => ?_) (fun c16 => ?_)
      · have h := sy_t c16 h
        refine lv_aload_n hx hb dX12_pillar_68 rfl (lv_at hl 0 rfl) ?_
        refine sy_q11 fx X (sy_OModel_o ht) 23 (by decide) wm_175 (fun _ h9 => h9) rfl (sy_OModel_r23 ht) dX12_pillar_69 ?_
        refine lv_iconst (v := 2) hx hb dX12_pillar_72 (by decide) ?_
        refine sy_iald fx X (sy_OModel_a23 ht) (by decide) dX12_pillar_73 ?_
        obtain ⟨x17, hx17, h⟩ := sy_b_e h
        refine sy_top hx17 ?_
        refine lv_istore_n (lv' := [(3, .int x17), (0, .ref (sy_ad E 392)), (1, .int y1), (2, .int y2)]) hx hb dX12_pillar_74 rfl hl (by decide) rfl (fun ls hl => ?_)
        refine lv_aload_n hx hb dX12_pillar_75 rfl (lv_at hl 1 rfl) ?_
        refine sy_q11 fx X (sy_OModel_o ht) 22 (by decide) wm_174 (fun _ h9 => h9) rfl (sy_OModel_r22 ht) dX12_pillar_76 ?_
        refine lv_iconst (v := 0) hx hb dX12_pillar_79 (by decide) ?_
        refine lv_aload_n hx hb dX12_pillar_80 rfl (lv_at hl 1 rfl) ?_
        refine sy_q11 fx X (sy_OModel_o ht) 23 (by decide) wm_175 (fun _ h9 => h9) rfl (sy_OModel_r23 ht) dX12_pillar_81 ?_
        refine lv_iconst (v := 0) hx hb dX12_pillar_84 (by decide) ?_
        obtain ⟨r19, S18, hc20, h⟩ := sy_c_e h
        refine sy_sv (rest := []) fx hA X hl.1 (c_Model_copy l (sy_OModel_a22 ht) (sy_OModel_a23 ht) hc20) cv_Model_copy wm_539 ⟨Nat.le_of_ble_eq_true rfl, Nat.le_of_ble_eq_true rfl, Nat.le_refl _, Nat.le_refl _⟩ rfl rfl (Nat.le_of_ble_eq_true rfl) dX12_pillar_85 (fun H locs X => ?_)
        refine lv_iconst (v := 0) hx hb dX12_pillar_88 (by decide) ?_
        refine lv_istore (lv' := [(4, .int 0), (3, .int x17), (0, .ref (sy_ad E 392)), (1, .int y1), (2, .int y2)]) hx hb dX12_pillar_89 hl (by decide) rfl (fun ls hl => ?_)
        exact L_91 sy_F y1 y2 x17 0 S18 _ _ _ X (lv_sub hl [2, 3, 4, 1, 0] rfl) h
      · have h := sy_f c16 h
        refine lv_aload_n hx hb dX12_pillar_53 rfl (lv_at hl 0 rfl) ?_
        refine lv_aload_n hx hb dX12_pillar_54 rfl (lv_at hl 0 rfl) ?_
        refine sy_q11 fx X (sy_OModel_o ht) 23 (by decide) wm_175 (fun _ h9 => h9) rfl (sy_OModel_r23 ht) dX12_pillar_55 ?_
        refine lv_iconst (v := 0) hx hb dX12_pillar_58 (by decide) ?_
        obtain ⟨r22, S21, hc23, h⟩ := sy_c_e h
        refine sy_vv (rest := []) fx hA X hl.1 (sy_OModel_o ht) (sy_en11 (sy_OModel_o ht).2) rfl (c_Model_pass l ht (sy_OModel_a23 ht) hc23) cv_Model_pass wm_542 ⟨Nat.le_of_ble_eq_true rfl, Nat.le_of_ble_eq_true rfl, Nat.le_refl _, Nat.le_refl _⟩ rfl rfl (Nat.le_of_ble_eq_true rfl) dX12_pillar_59 (fun H locs X => ?_)
        obtain ⟨x24, hx24, h⟩ := sy_b_e h
        refine lv_iinc (v := x24) (lv' := [(3, .int x24), (0, .ref (sy_ad E 392)), (1, .int y1), (2, .int y2)]) hx hb dX12_pillar_62 hl (k := 3) rfl (by rw [hx24]; rfl) (by decide) rfl (fun ls hl => ?_)
        refine lv_goto (tgt := 48) hx hb dX12_pillar_65 (by decide) ?_
        exact ih48 y1 y2 x24 S21 _ _ _ X (lv_sub hl [1, 2, 3, 0] rfl) h
  unfold m_Model_pillar at h
  refine lv_iload_n hx hb dX12_pillar_0 rfl (lv_at hl 1 rfl) ?_
  refine lv_iconst (v := 1) hx hb dX12_pillar_1 (by decide) ?_
  refine lv_bipush (v := 30) hx hb dX12_pillar_2 (by decide) ?_
  obtain ⟨r2, S1, hc3, h⟩ := sy_c_e h
  refine sy_si (rest := []) fx hA X hl.1 (c_Model_in l hc3) cv_Model_in wm_211 ⟨Nat.le_of_ble_eq_true rfl, Nat.le_of_ble_eq_true rfl, Nat.le_refl _, Nat.le_refl _⟩ rfl rfl (Nat.le_of_ble_eq_true rfl) dX12_pillar_4 (fun H locs X => ?_)
  refine lv_if_eq (tgt := 20) hx hb dX12_pillar_7 (by decide) (fun c4 => ?_) (fun c4 => ?_)
  · have h := sy_t c4 h
    refine lv_ldc (v := (-1000000002)) hx hb hown (hts _ wm_208) dX12_pillar_20 ?_
    exact sy_iret fx X hr hlk h dX12_pillar_22
  · have h := sy_f c4 h
    refine lv_iload_n hx hb dX12_pillar_10 rfl (lv_at hl 2 rfl) ?_
    refine lv_iconst (v := 1) hx hb dX12_pillar_11 (by decide) ?_
    refine lv_bipush (v := 40) hx hb dX12_pillar_12 (by decide) ?_
    obtain ⟨r6, S5, hc7, h⟩ := sy_c_e h
    refine sy_si (rest := []) fx hA X hl.1 (c_Model_in l hc7) cv_Model_in wm_211 ⟨Nat.le_of_ble_eq_true rfl, Nat.le_of_ble_eq_true rfl, Nat.le_refl _, Nat.le_refl _⟩ rfl rfl (Nat.le_of_ble_eq_true rfl) dX12_pillar_14 (fun H locs X => ?_)
    refine lv_if_ne (tgt := 23) hx hb dX12_pillar_17 (by decide) (fun c8 => ?_) (fun c8 => ?_)
    · have h := sy_f c8 h
      refine lv_aload_n hx hb dX12_pillar_23 rfl (lv_at hl 0 rfl) ?_
      obtain ⟨r10, S9, hc11, h⟩ := sy_c_e h
      refine sy_vi (rest := []) fx hA X hl.1 (sy_OModel_o ht) (sy_en11 (sy_OModel_o ht).2) rfl (c_Model_isHere l ht hc11) cv_Model_isHere wm_531 ⟨Nat.le_of_ble_eq_true rfl, Nat.le_of_ble_eq_true rfl, Nat.le_refl _, Nat.le_refl _⟩ rfl rfl (Nat.le_of_ble_eq_true rfl) dX12_pillar_24 (fun H locs X => ?_)
      refine lv_if_ne (tgt := 33) hx hb dX12_pillar_27 (by decide) (fun c12 => ?_) (fun c12 => ?_)
      · have h := sy_f c12 h
        refine lv_aload_n hx hb dX12_pillar_33 rfl (lv_at hl 0 rfl) ?_
        refine sy_q11 fx X (sy_OModel_o ht) 22 (by decide) wm_174 (fun _ h9 => h9) rfl (sy_OModel_r22 ht) dX12_pillar_34 ?_
        refine lv_iconst (v := 0) hx hb dX12_pillar_37 (by decide) ?_
        refine lv_aload_n hx hb dX12_pillar_38 rfl (lv_at hl 0 rfl) ?_
        refine sy_q11 fx X (sy_OModel_o ht) 23 (by decide) wm_175 (fun _ h9 => h9) rfl (sy_OModel_r23 ht) dX12_pillar_39 ?_
        refine lv_iconst (v := 0) hx hb dX12_pillar_42 (by decide) ?_
        obtain ⟨r14, S13, hc15, h⟩ := sy_c_e h
        refine sy_sv (rest := []) fx hA X hl.1 (c_Model_copy l (sy_OModel_a22 ht) (sy_OModel_a23 ht) hc15) cv_Model_copy wm_539 ⟨Nat.le_of_ble_eq_true rfl, Nat.le_of_ble_eq_true rfl, Nat.le_refl _, Nat.le_refl _⟩ rfl rfl (Nat.le_of_ble_eq_true rfl) dX12_pillar_43 (fun H locs X => ?_)
        refine lv_iconst (v := 0) hx hb dX12_pillar_46 (by decide) ?_
        refine lv_istore_n (lv' := [(3, .int 0), (0, .ref (sy_ad E 392)), (1, .int p0), (2, .int p1)]) hx hb dX12_pillar_47 rfl hl (by decide) rfl (fun ls hl => ?_)
        exact L_48 sy_F p0 p1 0 S13 _ _ _ X (lv_sub hl [1, 2, 3, 0] rfl) h
      · have h := sy_t c12 h
        refine lv_ldc (v := (-1000000003)) hx hb hown (hts _ wm_530) dX12_pillar_30 ?_
        exact sy_iret fx X hr hlk h dX12_pillar_32
    · have h := sy_t c8 h
      refine lv_ldc (v := (-1000000002)) hx hb hown (hts _ wm_208) dX12_pillar_20 ?_
      exact sy_iret fx X hr hlk h dX12_pillar_22
