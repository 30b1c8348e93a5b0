def m_Book_add (p0 : Int32) (p1 : Int32) (p2 : Int32) (S : sy_St) : sy_R := if 20 ≤ (S 384 3) then (some (S 384 3, S)) else (sy_g (sy_in (S 384 3) 20) <| sy_b (sy_up S 385 ((S 384 3).toNatClampNeg) p0) fun S3 => sy_g (sy_in (S3 384 3) 20) <| sy_b (sy_up S3 386 ((S3 384 3).toNatClampNeg) p1) fun S5 => sy_g (sy_in (S5 384 3) 20) <| sy_b (sy_up S5 387 ((S5 384 3).toNatClampNeg) (vp_nar .boolean p2)) fun S7 => sy_b (sy_up S7 384 3 ((S7 384 3) + 1)) fun S8 => some (S8 384 3, S8))
theorem cv_Book_add : sy_cV RX0 yX0_add cX0_add 4 (some .int) 3 := ⟨wm_1020, wm_1021, wm_48, wm_1022, by decide +kernel⟩
set_option maxRecDepth 100000 in
set_option maxHeartbeats 40000000 in
theorem c_Book_add (l : Launch) {E : sy_ET} (ht : sy_OBook E) {p0 : Int32} {p1 : Int32} {p2 : Int32} {S S' : sy_St} {r : Int32} (h : m_Book_add p0 p1 p2 S = some (r, S')) : sy_MI l yX0_add cX0_add 4 (some .int) 0 0 [.ref (sy_ad E 384), .int p0, .int p1, .int p2] E S r S' := by
  refine sy_MI_of RX0 pn_0 rfl (Nat.le_of_ble_eq_true rfl) (fun p e s m args below meth c A ls fx hr hlk hA X hl => ?_)
  have hx := fx.1
  have hb := fx.2.1
  have hown := fx.2.2.2.1
  have hts := fx.2.2.2.2
  have hl : lv_has ls 4 [(0, .ref (sy_ad E 384)), (1, .int p0), (2, .int p1), (3, .int p2)] := hl
  unfold m_Book_add at h
  refine lv_aload_n hx hb dX0_add_0 rfl (lv_at hl 0 rfl) ?_
  refine sy_g0 fx X (sy_OBook_o ht) 3 (by decide) wm_323 (fun _ h9 => h9) rfl dX0_add_1 ?_
  refine lv_bipush (v := 20) hx hb dX0_add_4 (by decide) ?_
  refine lv_icmp_ge (tgt := 49) hx hb dX0_add_6 (by decide) (fun c1 => ?_) (fun c1 => ?_)
  · have h := sy_t c1 h
    refine lv_aload_n hx hb dX0_add_49 rfl (lv_at hl 0 rfl) ?_
    refine sy_g0 fx X (sy_OBook_o ht) 3 (by decide) wm_323 (fun _ h9 => h9) rfl dX0_add_50 ?_
    exact sy_iret fx X hr hlk h dX0_add_53
  · have h := sy_f c1 h
    refine lv_aload_n hx hb dX0_add_9 rfl (lv_at hl 0 rfl) ?_
    refine sy_q0 fx X (sy_OBook_o ht) 0 (by decide) wm_149 (fun _ h9 => h9) rfl (sy_OBook_r0 ht) dX0_add_10 ?_
    refine lv_aload_n hx hb dX0_add_13 rfl (lv_at hl 0 rfl) ?_
    refine sy_g0 fx X (sy_OBook_o ht) 3 (by decide) wm_323 (fun _ h9 => h9) rfl dX0_add_14 ?_
    refine lv_iload_n hx hb dX0_add_17 rfl (lv_at hl 1 rfl) ?_
    obtain ⟨g2, h⟩ := sy_g_e h
    obtain ⟨S3, hS3, h⟩ := sy_b_e h
    refine sy_iast fx X (sy_OBook_a0 ht) g2 hS3 dX0_add_18 (fun H locs X => ?_)
    refine lv_aload_n hx hb dX0_add_19 rfl (lv_at hl 0 rfl) ?_
    refine sy_q0 fx X (sy_OBook_o ht) 1 (by decide) wm_150 (fun _ h9 => h9) rfl (sy_OBook_r1 ht) dX0_add_20 ?_
    refine lv_aload_n hx hb dX0_add_23 rfl (lv_at hl 0 rfl) ?_
    refine sy_g0 fx X (sy_OBook_o ht) 3 (by decide) wm_323 (fun _ h9 => h9) rfl dX0_add_24 ?_
    refine lv_iload_n hx hb dX0_add_27 rfl (lv_at hl 2 rfl) ?_
    obtain ⟨g4, h⟩ := sy_g_e h
    obtain ⟨S5, hS5, h⟩ := sy_b_e h
    refine sy_iast fx X (sy_OBook_a1 ht) g4 hS5 dX0_add_28 (fun H locs X => ?_)
    refine lv_aload_n hx hb dX0_add_29 rfl (lv_at hl 0 rfl) ?_
    refine sy_q0 fx X (sy_OBook_o ht) 2 (by decide) wm_151 (fun _ h9 => h9) rfl (sy_OBook_r2 ht) dX0_add_30 ?_
    refine lv_aload_n hx hb dX0_add_33 rfl (lv_at hl 0 rfl) ?_
    refine sy_g0 fx X (sy_OBook_o ht) 3 (by decide) wm_323 (fun _ h9 => h9) rfl dX0_add_34 ?_
    refine lv_iload_n hx hb dX0_add_37 rfl (lv_at hl 3 rfl) ?_
    obtain ⟨g6, h⟩ := sy_g_e h
    obtain ⟨S7, hS7, h⟩ := sy_b_e h
    refine sy_zast fx X (sy_OBook_a2 ht) g6 hS7 dX0_add_38 (fun H locs X => ?_)
    refine lv_aload_n hx hb dX0_add_39 rfl (lv_at hl 0 rfl) ?_
    refine lv_dup hx hb dX0_add_40 rfl ?_
    refine sy_g0 fx X (sy_OBook_o ht) 3 (by decide) wm_323 (fun _ h9 => h9) rfl dX0_add_41 ?_
    refine lv_iconst (v := 1) hx hb dX0_add_44 (by decide) ?_
    refine lv_iadd hx hb dX0_add_45 ?_
    obtain ⟨S8, hS8, h⟩ := sy_b_e h
    refine sy_p0 fx X (sy_OBook_o ht) 3 (by decide) wm_323 (fun _ h9 => h9) rfl (ty := .int) (by decide +kernel) rfl rfl hS8 sy_s0_3 dX0_add_46 (fun H locs X => ?_)
    refine lv_aload_n hx hb dX0_add_49 rfl (lv_at hl 0 rfl) ?_
    refine sy_g0 fx X (sy_OBook_o ht) 3 (by decide) wm_323 (fun _ h9 => h9) rfl dX0_add_50 ?_
    exact sy_iret fx X hr hlk h dX0_add_53
def m_Book_clear (S : sy_St) : sy_R := sy_b (sy_up S 384 3 0) fun S1 => some (0, S1)
theorem cv_Book_clear : sy_cV RX0 yX0_clear cX0_clear 1 none 0 := ⟨wm_320, wm_321, wm_48, wm_322, by decide +kernel⟩
set_option maxRecDepth 100000 in
set_option maxHeartbeats 40000000 in
theorem c_Book_clear (l : Launch) {E : sy_ET} (ht : sy_OBook E) {S S' : sy_St} {r : Int32} (h : m_Book_clear S = some (r, S')) : sy_MV l yX0_clear cX0_clear 1 0 0 [.ref (sy_ad E 384)] E S S' := by
  refine sy_MV_of RX0 pn_0 rfl (Nat.le_of_ble_eq_true rfl) (fun p e s m args below meth c A ls fx hr hlk hA X hl => ?_)
  have hx := fx.1
  have hb := fx.2.1
  have hown := fx.2.2.2.1
  have hts := fx.2.2.2.2
  have hl : lv_has ls 1 [(0, .ref (sy_ad E 384))] := hl
  unfold m_Book_clear at h
  refine lv_aload_n hx hb dX0_clear_0 rfl (lv_at hl 0 rfl) ?_
  refine lv_iconst (v := 0) hx hb dX0_clear_1 (by decide) ?_
  obtain ⟨S1, hS1, h⟩ := sy_b_e h
  refine sy_p0 fx X (sy_OBook_o ht) 3 (by decide) wm_323 (fun _ h9 => h9) rfl (ty := .int) (by decide +kernel) rfl rfl hS1 sy_s0_3 dX0_clear_2 (fun H locs X => ?_)
  exact sy_vret fx X hr hlk h dX0_clear_5
def m_Sky_isHolding (k : Nat) (p0 : Int32) (S : sy_St) : sy_R := if p0 = (-1) then (some (0, S)) else (if p0 = (S k 9) then (some (1, S)) else (if p0 = (S k 10) then (some (1, S)) else (some (0, S))))
theorem cv_Sky_isHolding : sy_cV RX10 yX10_isHolding cX10_isHolding 2 (some .boolean) 1 := ⟨wm_515, wm_516, wm_17, wm_517, by decide +kernel⟩
set_option maxRecDepth 100000 in
set_option maxHeartbeats 40000000 in
theorem c_Sky_isHolding (l : Launch) {E : sy_ET} {k : Nat} (ht : sy_OSky E k) {p0 : Int32} {S S' : sy_St} {r : Int32} (h : m_Sky_isHolding k p0 S = some (r, S')) : sy_MI l yX10_isHolding cX10_isHolding 2 (some .boolean) 0 0 [.ref (sy_ad E k), .int p0] E S r S' := by
  refine sy_MI_of RX10 pn_10 rfl (Nat.le_of_ble_eq_true rfl) (fun p e s m args below meth c A ls fx hr hlk hA X hl => ?_)
  have hx := fx.1
  have hb := fx.2.1
  have hown := fx.2.2.2.1
  have hts := fx.2.2.2.2
  have hl : lv_has ls 2 [(0, .ref (sy_ad E k)), (1, .int p0)] := hl
  unfold m_Sky_isHolding at h
  refine lv_iload_n hx hb dX10_isHolding_0 rfl (lv_at hl 1 rfl) ?_
  refine lv_iconst (v := (-1)) hx hb dX10_isHolding_1 (by decide) ?_
  refine lv_icmp_eq (tgt := 25) hx hb dX10_isHolding_2 (by decide) (fun c1 => ?_) (fun c1 => ?_)
  · have h := sy_t c1 h
    refine lv_iconst (v := 0) hx hb dX10_isHolding_25 (by decide) ?_
    exact sy_zret fx X hr hlk (Or.inl rfl) h dX10_isHolding_26
  · have h := sy_f c1 h
    refine lv_iload_n hx hb dX10_isHolding_5 rfl (lv_at hl 1 rfl) ?_
    refine lv_aload_n hx hb dX10_isHolding_6 rfl (lv_at hl 0 rfl) ?_
    refine sy_g9 fx X (sy_OSky_o ht) 9 (by decide) wm_101 (fun _ h9 => h9) rfl dX10_isHolding_7 ?_
    refine lv_icmp_eq (tgt := 21) hx hb dX10_isHolding_10 (by decide) (fun c2 => ?_) (fun c2 => ?_)
    · have h := sy_t c2 h
      refine lv_iconst (v := 1) hx hb dX10_isHolding_21 (by decide) ?_
      refine lv_goto (tgt := 26) hx hb dX10_isHolding_22 (by decide) ?_
      exact sy_zret fx X hr hlk (Or.inr rfl) h dX10_isHolding_26
    · have h := sy_f c2 h
      refine lv_iload_n hx hb dX10_isHolding_13 rfl (lv_at hl 1 rfl) ?_
      refine lv_aload_n hx hb dX10_isHolding_14 rfl (lv_at hl 0 rfl) ?_
      refine sy_g9 fx X (sy_OSky_o ht) 10 (by decide) wm_102 (fun _ h9 => h9) rfl dX10_isHolding_15 ?_
      refine lv_icmp_ne (tgt := 25) hx hb dX10_isHolding_18 (by decide) (fun c3 => ?_) (fun c3 => ?_)
      · have h := sy_f c3 h
        refine lv_iconst (v := 0) hx hb dX10_isHolding_25 (by decide) ?_
        exact sy_zret fx X hr hlk (Or.inl rfl) h dX10_isHolding_26
      · have h := sy_t c3 h
        refine lv_iconst (v := 1) hx hb dX10_isHolding_21 (by decide) ?_
        refine lv_goto (tgt := 26) hx hb dX10_isHolding_22 (by decide) ?_
        exact sy_zret fx X hr hlk (Or.inr rfl) h dX10_isHolding_26
def m_Edge_isPerson (k : Nat) (p0 : Int32) (S : sy_St) : sy_R := if p0 < 0 then (some (0, S)) else (if (S k 8) ≤ p0 then (some (0, S)) else (some (1, S)))
theorem cv_Edge_isPerson : sy_cV RX3 yX3_isPerson cX3_isPerson 2 (some .boolean) 1 := ⟨wm_282, wm_283, wm_14, wm_284, by decide +kernel⟩
set_option maxRecDepth 100000 in
set_option maxHeartbeats 40000000 in
theorem c_Edge_isPerson (l : Launch) {E : sy_ET} {k : Nat} (ht : sy_OEdge E k) {p0 : Int32} {S S' : sy_St} {r : Int32} (h : m_Edge_isPerson k p0 S = some (r, S')) : sy_MI l yX3_isPerson cX3_isPerson 2 (some .boolean) 0 0 [.ref (sy_ad E k), .int p0] E S r S' := by
  refine sy_MI_of RX3 pn_3 rfl (Nat.le_of_ble_eq_true rfl) (fun p e s m args below meth c A ls fx hr hlk hA X hl => ?_)
  have hx := fx.1
  have hb := fx.2.1
  have hown := fx.2.2.2.1
  have hts := fx.2.2.2.2
  have hl : lv_has ls 2 [(0, .ref (sy_ad E k)), (1, .int p0)] := hl
  unfold m_Edge_isPerson at h
  refine lv_iload_n hx hb dX3_isPerson_0 rfl (lv_at hl 1 rfl) ?_
  refine lv_if_lt (tgt := 16) hx hb dX3_isPerson_1 (by decide) (fun c1 => ?_) (fun c1 => ?_)
  · have h := sy_t c1 h
    refine lv_iconst (v := 0) hx hb dX3_isPerson_16 (by decide) ?_
    exact sy_zret fx X hr hlk (Or.inl rfl) h dX3_isPerson_17
  · have h := sy_f c1 h
    refine lv_iload_n hx hb dX3_isPerson_4 rfl (lv_at hl 1 rfl) ?_
    refine lv_aload_n hx hb dX3_isPerson_5 rfl (lv_at hl 0 rfl) ?_
    refine sy_g3 fx X (sy_OEdge_o ht) 8 (by decide) wm_76 (fun _ h9 => h9) rfl dX3_isPerson_6 ?_
    refine lv_icmp_ge (tgt := 16) hx hb dX3_isPerson_9 (by decide) (fun c2 => ?_) (fun c2 => ?_)
    · have h := sy_t c2 h
      refine lv_iconst (v := 0) hx hb dX3_isPerson_16 (by decide) ?_
      exact sy_zret fx X hr hlk (Or.inl rfl) h dX3_isPerson_17
    · have h := sy_f c2 h
      refine lv_iconst (v := 1) hx hb dX3_isPerson_12 (by decide) ?_
      refine lv_goto (tgt := 17) hx hb dX3_isPerson_13 (by decide) ?_
      exact sy_zret fx X hr hlk (Or.inr rfl) h dX3_isPerson_17
def m_Top_isWord (p0 : Int32) (S : sy_St) : sy_R := if p0 < 0 then (some (0, S)) else (if 3 ≤ p0 then (some (0, S)) else (some (1, S)))
theorem cv_Top_isWord : sy_cS RX11 yX11_isWord cX11_isWord 1 (some .boolean) 1 := ⟨wm_468, wm_2, wm_469, by decide +kernel⟩
set_option maxRecDepth 100000 in
set_option maxHeartbeats 40000000 in
theorem c_Top_isWord (l : Launch) {E : sy_ET} {p0 : Int32} {S S' : sy_St} {r : Int32} (h : m_Top_isWord p0 S = some (r, S')) : sy_MI l yX11_isWord cX11_isWord 1 (some .boolean) 0 0 [.int p0] E S r S' := by
  refine sy_MI_of RX11 pn_11 rfl (Nat.le_of_ble_eq_true rfl) (fun p e s m args below meth c A ls fx hr hlk hA X hl => ?_)
  have hx := fx.1
  have hb := fx.2.1
  have hown := fx.2.2.2.1
  have hts := fx.2.2.2.2
  have hl : lv_has ls 1 [(0, .int p0)] := hl
  unfold m_Top_isWord at h
  refine lv_iload_n hx hb dX11_isWord_0 rfl (lv_at hl 0 rfl) ?_
  refine lv_if_lt (tgt := 13) hx hb dX11_isWord_1 (by decide) (fun c1 => ?_) (fun c1 => ?_)
  · have h := sy_t c1 h
    refine lv_iconst (v := 0) hx hb dX11_isWord_13 (by decide) ?_
    exact sy_zret fx X hr hlk (Or.inl rfl) h dX11_isWord_14
  · have h := sy_f c1 h
    refine lv_iload_n hx hb dX11_isWord_4 rfl (lv_at hl 0 rfl) ?_
    refine lv_iconst (v := 3) hx hb dX11_isWord_5 (by decide) ?_
    refine lv_icmp_ge (tgt := 13) hx hb dX11_isWord_6 (by decide) (fun c2 => ?_) (fun c2 => ?_)
    · have h := sy_t c2 h
      refine lv_iconst (v := 0) hx hb dX11_isWord_13 (by decide) ?_
      exact sy_zret fx X hr hlk (Or.inl rfl) h dX11_isWord_14
    · have h := sy_f c2 h
      refine lv_iconst (v := 1) hx hb dX11_isWord_9 (by decide) ?_
      refine lv_goto (tgt := 14) hx hb dX11_isWord_10 (by decide) ?_
      exact sy_zret fx X hr hlk (Or.inr rfl) h dX11_isWord_14
def m_Sky_isTrickedBy (k : Nat) (p0 : Int32) (p1 : Int32) (S : sy_St) : sy_R := sy_c (m_Edge_isPerson 1 p0 S) fun r2 S1 => if r2 = 0 then (some (0, S1)) else (sy_c (m_Top_isWord p1 S1) fun r6 S5 => if r6 = 0 then (some (0, S5)) else (sy_g (sy_in p1 3) <| sy_g (sy_in p0 6) <| if (S5 8 p1.toNatClampNeg) ≤ (S5 6 p0.toNatClampNeg) then (some (0, S5)) else (sy_g (sy_in p0 6) <| if ((S5 (k + 4) p0.toNatClampNeg) &&& (1 <<< (p1 &&& 31))) = 0 then (some (1, S5)) else (some (0, S5)))))
theorem cv_Sky_isTrickedBy : sy_cV RX10 yX10_isTrickedBy cX10_isTrickedBy 3 (some .boolean) 2 := ⟨wm_557, wm_558, wm_17, wm_559, by decide +kernel⟩
set_option maxRecDepth 100000 in
set_option maxHeartbeats 40000000 in
theorem c_Sky_isTrickedBy (l : Launch) {E : sy_ET} {k : Nat} (ht : sy_OSky E k) {p0 : Int32} {p1 : Int32} {S S' : sy_St} {r : Int32} (h : m_Sky_isTrickedBy k p0 p1 S = some (r, S')) : sy_MI l yX10_isTrickedBy cX10_isTrickedBy 3 (some .boolean) 1 21 [.ref (sy_ad E k), .int p0, .int p1] E S r S' := by
  refine sy_MI_of RX10 pn_10 rfl (Nat.le_of_ble_eq_true rfl) (fun p e s m args below meth c A ls fx hr hlk hA X hl => ?_)
  have hx := fx.1
  have hb := fx.2.1
  have hown := fx.2.2.2.1
  have hts := fx.2.2.2.2
  have hl : lv_has ls 3 [(0, .ref (sy_ad E k)), (1, .int p0), (2, .int p1)] := hl
  unfold m_Sky_isTrickedBy at h
  refine lv_aload_n hx hb dX10_isTrickedBy_0 rfl (lv_at hl 0 rfl) ?_
  refine sy_q9 fx X (sy_OSky_o ht) 0 (by decide) wm_90 (fun _ h9 => h9) rfl (sy_OSky_r0 ht) dX10_isTrickedBy_1 ?_
  refine lv_iload_n hx hb dX10_isTrickedBy_4 rfl (lv_at hl 1 rfl) ?_
  obtain ⟨r2, S1, hc3, h⟩ := sy_c_e h
  refine sy_vi (rest := []) fx hA X hl.1 (sy_OEdge_o (sy_OSky_a0 ht)) (sy_en3 (sy_OEdge_o (sy_OSky_a0 ht)).2) rfl (c_Edge_isPerson l (sy_OSky_a0 ht) hc3) cv_Edge_isPerson wm_416 ⟨Nat.le_of_ble_eq_true rfl, Nat.le_of_ble_eq_true rfl, Nat.le_refl _, Nat.le_refl _⟩ rfl rfl (Nat.le_of_ble_eq_true rfl) dX10_isTrickedBy_5 (fun H locs X => ?_)
  refine lv_if_eq (tgt := 18) hx hb dX10_isTrickedBy_8 (by decide) (fun c4 => ?_) (fun c4 => ?_)
  · have h := sy_t c4 h
    refine lv_iconst (v := 0) hx hb dX10_isTrickedBy_18 (by decide) ?_
    exact sy_zret fx X hr hlk (Or.inl rfl) h dX10_isTrickedBy_19
  · have h := sy_f c4 h
    refine lv_iload_n hx hb dX10_isTrickedBy_11 rfl (lv_at hl 2 rfl) ?_
    obtain ⟨r6, S5, hc7, h⟩ := sy_c_e h
    refine sy_ni (rest := []) fx hA X hl.1 (c_Top_isWord l hc7) cv_Top_isWord X.1.2.1 ⟨Nat.le_of_ble_eq_true rfl, Nat.le_of_ble_eq_true rfl, Nat.le_refl _, Nat.le_refl _⟩ rfl rfl (Nat.le_of_ble_eq_true rfl) dX10_isTrickedBy_12 (fun H locs X => ?_)
    refine lv_if_ne (tgt := 20) hx hb dX10_isTrickedBy_15 (by decide) (fun c8 => ?_) (fun c8 => ?_)
    · have h := sy_f c8 h
      refine lv_aload_n hx hb dX10_isTrickedBy_20 rfl (lv_at hl 0 rfl) ?_
      refine sy_q9 fx X (sy_OSky_o ht) 0 (by decide) wm_90 (fun _ h9 => h9) rfl (sy_OSky_r0 ht) dX10_isTrickedBy_21 ?_
      refine sy_q3 fx X (sy_OEdge_o (sy_OSky_a0 ht)) 6 (by decide) wm_560 (fun _ h9 => h9) rfl (sy_OEdge_r6 (sy_OSky_a0 ht)) dX10_isTrickedBy_24 ?_
      refine lv_iload_n hx hb dX10_isTrickedBy_27 rfl (lv_at hl 2 rfl) ?_
      obtain ⟨g9, h⟩ := sy_g_e h
      refine sy_iald fx X (sy_OEdge_a6 (sy_OSky_a0 ht)) g9 dX10_isTrickedBy_28 ?_
      refine lv_aload_n hx hb dX10_isTrickedBy_29 rfl (lv_at hl 0 rfl) ?_
      refine sy_q9 fx X (sy_OSky_o ht) 0 (by decide) wm_90 (fun _ h9 => h9) rfl (sy_OSky_r0 ht) dX10_isTrickedBy_30 ?_
      refine sy_q3 fx X (sy_OEdge_o (sy_OSky_a0 ht)) 4 (by decide) wm_561 (fun _ h9 => h9) rfl (sy_OEdge_r4 (sy_OSky_a0 ht)) dX10_isTrickedBy_33 ?_
      refine lv_iload_n hx hb dX10_isTrickedBy_36 rfl (lv_at hl 1 rfl) ?_
      obtain ⟨g10, h⟩ := sy_g_e h
      refine sy_iald fx X (sy_OEdge_a4 (sy_OSky_a0 ht)) g10 dX10_isTrickedBy_37 ?_
      refine lv_icmp_le (tgt := 58) hx hb dX10_isTrickedBy_38 (by decide) (fun c11 => ?_) (fun c11 => ?_)
      · have h := sy_t c11 h
        refine lv_iconst (v := 0) hx hb dX10_isTrickedBy_58 (by decide) ?_
        exact sy_zret fx X hr hlk (Or.inl rfl) h dX10_isTrickedBy_59
      · have h := sy_f c11 h
        refine lv_aload_n hx hb dX10_isTrickedBy_41 rfl (lv_at hl 0 rfl) ?_
        refine sy_q9 fx X (sy_OSky_o ht) 4 (by decide) wm_89 (fun _ h9 => h9) rfl (sy_OSky_r4 ht) dX10_isTrickedBy_42 ?_
        refine lv_iload_n hx hb dX10_isTrickedBy_45 rfl (lv_at hl 1 rfl) ?_
        obtain ⟨g12, h⟩ := sy_g_e h
        refine sy_iald fx X (sy_OSky_a4 ht) g12 dX10_isTrickedBy_46 ?_
        refine lv_iconst (v := 1) hx hb dX10_isTrickedBy_47 (by decide) ?_
        refine lv_iload_n hx hb dX10_isTrickedBy_48 rfl (lv_at hl 2 rfl) ?_
        refine lv_ishl hx hb dX10_isTrickedBy_49 ?_
        refine lv_iand hx hb dX10_isTrickedBy_50 ?_
        refine lv_if_ne (tgt := 58) hx hb dX10_isTrickedBy_51 (by decide) (fun c13 => ?_) (fun c13 => ?_)
        · have h := sy_f c13 h
          refine lv_iconst (v := 0) hx hb dX10_isTrickedBy_58 (by decide) ?_
          exact sy_zret fx X hr hlk (Or.inl rfl) h dX10_isTrickedBy_59
        · have h := sy_t c13 h
          refine lv_iconst (v := 1) hx hb dX10_isTrickedBy_54 (by decide) ?_
          refine lv_goto (tgt := 59) hx hb dX10_isTrickedBy_55 (by decide) ?_
          exact sy_zret fx X hr hlk (Or.inr rfl) h dX10_isTrickedBy_59
    · have h := sy_t c8 h
      refine lv_iconst (v := 0) hx hb dX10_isTrickedBy_18 (by decide) ?_
      exact sy_zret fx X hr hlk (Or.inl rfl) h dX10_isTrickedBy_19
def m_Sky_handTo (k : Nat) (p0 : Int32) (S : sy_St) : sy_R := sy_b (sy_up S k 9 p0) fun S1 => sy_b (sy_up S1 k 10 (-1)) fun S2 => some (0, S2)
theorem cv_Sky_handTo : sy_cV RX10 yX10_handTo cX10_handTo 2 none 1 := ⟨wm_563, wm_564, wm_17, wm_565, by decide +kernel⟩
set_option maxRecDepth 100000 in
set_option maxHeartbeats 40000000 in
theorem c_Sky_handTo (l : Launch) {E : sy_ET} {k : Nat} (ht : sy_OSky E k) {p0 : Int32} {S S' : sy_St} {r : Int32} (h : m_Sky_handTo k p0 S = some (r, S')) : sy_MV l yX10_handTo cX10_handTo 2 0 0 [.ref (sy_ad E k), .int p0] E S S' := by
  refine sy_MV_of RX10 pn_10 rfl (Nat.le_of_ble_eq_true rfl) (fun p e s m args below meth c A ls fx hr hlk hA X hl => ?_)
  have hx := fx.1
  have hb := fx.2.1
  have hown := fx.2.2.2.1
  have hts := fx.2.2.2.2
  have hl : lv_has ls 2 [(0, .ref (sy_ad E k)), (1, .int p0)] := hl
  unfold m_Sky_handTo at h
  refine lv_aload_n hx hb dX10_handTo_0 rfl (lv_at hl 0 rfl) ?_
  refine lv_iload_n hx hb dX10_handTo_1 rfl (lv_at hl 1 rfl) ?_
  obtain ⟨S1, hS1, h⟩ := sy_b_e h
  refine sy_p9 fx X (sy_OSky_o ht) 9 (by decide) wm_101 (fun _ h9 => h9) rfl (ty := .int) (by decide +kernel) rfl rfl hS1 sy_s9_9 dX10_handTo_2 (fun H locs X => ?_)
  refine lv_aload_n hx hb dX10_handTo_5 rfl (lv_at hl 0 rfl) ?_
  refine lv_iconst (v := (-1)) hx hb dX10_handTo_6 (by decide) ?_
  obtain ⟨S2, hS2, h⟩ := sy_b_e h
  refine sy_p9 fx X (sy_OSky_o ht) 10 (by decide) wm_102 (fun _ h9 => h9) rfl (ty := .int) (by decide +kernel) rfl rfl hS2 sy_s9_10 dX10_handTo_7 (fun H locs X => ?_)
  exact sy_vret fx X hr hlk h dX10_handTo_10
def m_Sky_trick (k : Nat) (p0 : Int32) (p1 : Int32) (S : sy_St) : sy_R := sy_c (m_Sky_isTrickedBy k p0 p1 S) fun r2 S1 => if r2 = 0 then (some (0, S1)) else (sy_g (sy_in p0 6) <| sy_g (sy_in p0 6) <| sy_b (sy_up S1 (k + 4) p0.toNatClampNeg ((S1 (k + 4) p0.toNatClampNeg) ||| (1 <<< (p1 &&& 31)))) fun S7 => sy_c (m_Sky_handTo k p0 S7) fun r9 S8 => some (1, S8))
theorem cv_Sky_trick : sy_cV RX10 yX10_trick cX10_trick 3 (some .boolean) 2 := ⟨wm_553, wm_554, wm_17, wm_555, by decide +kernel⟩
set_option maxRecDepth 100000 in
set_option maxHeartbeats 40000000 in
theorem c_Sky_trick (l : Launch) {E : sy_ET} {k : Nat} (ht : sy_OSky E k) {p0 : Int32} {p1 : Int32} {S S' : sy_St} {r : Int32} (h : m_Sky_trick k p0 p1 S = some (r, S')) : sy_MI l yX10_trick cX10_trick 3 (some .boolean) 2 43 [.ref (sy_ad E k), .int p0, .int p1] E S r S' := by
  refine sy_MI_of RX10 pn_10 rfl (Nat.le_of_ble_eq_true rfl) (fun p e s m args below meth c A ls fx hr hlk hA X hl => ?_)
  have hx := fx.1
  have hb := fx.2.1
  have hown := fx.2.2.2.1
  have hts := fx.2.2.2.2
  have hl : lv_has ls 3 [(0, .ref (sy_ad E k)), (1, .int p0), (2, .int p1)] := hl
  unfold m_Sky_trick at h
  refine lv_aload_n hx hb dX10_trick_0 rfl (lv_at hl 0 rfl) ?_
  refine lv_iload_n hx hb dX10_trick_1 rfl (lv_at hl 1 rfl) ?_
  refine lv_iload_n hx hb dX10_trick_2 rfl (lv_at hl 2 rfl) ?_
  obtain ⟨r2, S1, hc3, h⟩ := sy_c_e h
  refine sy_vi (rest := []) fx hA X hl.1 (sy_OSky_o ht) (sy_en9 (sy_OSky_o ht).2) rfl (c_Sky_isTrickedBy l ht hc3) cv_Sky_isTrickedBy wm_556 ⟨Nat.le_of_ble_eq_true rfl, Nat.le_of_ble_eq_true rfl, Nat.le_refl _, Nat.le_refl _⟩ rfl rfl (Nat.le_of_ble_eq_true rfl) dX10_trick_3 (fun H locs X => ?_)
  refine lv_if_ne (tgt := 11) hx hb dX10_trick_6 (by decide) (fun c4 => ?_) (fun c4 => ?_)
  · have h := sy_f c4 h
    refine lv_aload_n hx hb dX10_trick_11 rfl (lv_at hl 0 rfl) ?_
    refine sy_q9 fx X (sy_OSky_o ht) 4 (by decide) wm_89 (fun _ h9 => h9) rfl (sy_OSky_r4 ht) dX10_trick_12 ?_
    refine lv_iload_n hx hb dX10_trick_15 rfl (lv_at hl 1 rfl) ?_
    refine lv_dup2_11 hx hb dX10_trick_16 rfl rfl ?_
    obtain ⟨g5, h⟩ := sy_g_e h
    refine sy_iald fx X (sy_OSky_a4 ht) g5 dX10_trick_17 ?_
    refine lv_iconst (v := 1) hx hb dX10_trick_18 (by decide) ?_
    refine lv_iload_n hx hb dX10_trick_19 rfl (lv_at hl 2 rfl) ?_
    refine lv_ishl hx hb dX10_trick_20 ?_
    refine lv_ior hx hb dX10_trick_21 ?_
    obtain ⟨g6, h⟩ := sy_g_e h
    obtain ⟨S7, hS7, h⟩ := sy_b_e h
    refine sy_iast fx X (sy_OSky_a4 ht) g6 hS7 dX10_trick_22 (fun H locs X => ?_)
    refine lv_aload_n hx hb dX10_trick_23 rfl (lv_at hl 0 rfl) ?_
    refine lv_iload_n hx hb dX10_trick_24 rfl (lv_at hl 1 rfl) ?_
    obtain ⟨r9, S8, hc10, h⟩ := sy_c_e h
    refine sy_vv (rest := []) fx hA X hl.1 (sy_OSky_o ht) (sy_en9 (sy_OSky_o ht).2) rfl (c_Sky_handTo l ht hc10) cv_Sky_handTo wm_562 ⟨Nat.le_of_ble_eq_true rfl, Nat.le_of_ble_eq_true rfl, Nat.le_refl _, Nat.le_refl _⟩ rfl rfl (Nat.le_of_ble_eq_true rfl) dX10_trick_25 (fun H locs X => ?_)
    refine lv_iconst (v := 1) hx hb dX10_trick_28 (by decide) ?_
    exact sy_zret fx X hr hlk (Or.inr rfl) h dX10_trick_29
  · have h := sy_t c4 h
    refine lv_iconst (v := 0) hx hb dX10_trick_9 (by decide) ?_
    exact sy_zret fx X hr hlk (Or.inl rfl) h dX10_trick_10
def m_Book_firstWrong_B2 (k0 : Nat) (kk2 : Int32 → sy_St → sy_R) (y2 : Int32) (S : sy_St) : sy_R := if (S 384 3) ≤ y2 then (some ((-1), S)) else (sy_g (sy_in y2 20) <| sy_c (m_Sky_isHolding k0 (S 385 y2.toNatClampNeg) S) fun r4 S3 => if r4 = 0 then (sy_g (sy_in y2 20) <| sy_g (sy_in y2 20) <| sy_c (m_Sky_trick k0 (S3 385 y2.toNatClampNeg) (S3 386 y2.toNatClampNeg) S3) fun r10 S9 => sy_g (sy_in y2 20) <| if r10 = (S9 387 y2.toNatClampNeg) then (sy_b (y2 + 1 : Int32) fun x14 => kk2 x14 S9) else (some (y2, S9))) else (some (y2, S3)))
def m_Book_firstWrong (k0 : Nat) (S : sy_St) : sy_R := sy_fix (fun _ _ => none) (m_Book_firstWrong_B2 k0) sy_F 0 S
theorem cv_Book_firstWrong : sy_cV RX0 yX0_firstWrong cX0_firstWrong 3 (some .int) 1 := ⟨wm_1032, wm_1033, wm_48, wm_1034, by decide +kernel⟩
set_option maxRecDepth 100000 in
set_option maxHeartbeats 40000000 in
theorem c_Book_firstWrong (l : Launch) {E : sy_ET} {k0 : Nat} (ht : sy_OBook E) (h0 : sy_OSky E k0) {S S' : sy_St} {r : Int32} (h : m_Book_firstWrong k0 S = some (r, S')) : sy_MI l yX0_firstWrong cX0_firstWrong 3 (some .int) 3 65 [.ref (sy_ad E 384), .ref (sy_ad E k0)] E S r S' := by
  refine sy_MI_of RX0 pn_0 rfl (Nat.le_of_ble_eq_true rfl) (fun p e s m args below meth c A ls fx hr hlk hA X hl => ?_)
  have hx := fx.1
  have hb := fx.2.1
  have hown := fx.2.2.2.1
  have hts := fx.2.2.2.2
  have hl : lv_has ls 3 [(0, .ref (sy_ad E 384)), (1, .ref (sy_ad E k0))] := hl
  have L_2 : ∀ (n2 : Nat) (y2 : Int32) (S : sy_St) (H : Heap) (locs : List Loc) (ls : Array Slot), sy_Wd E A s S H locs → lv_has ls 3 [(0, .ref (sy_ad E 384)), (1, .ref (sy_ad E k0)), (2, .int y2)] → sy_fix (fun _ _ => none) (m_Book_firstWrong_B2 k0) n2 y2 S = some (r, S') → W p l e (sy_rm 3 65) s m args below meth c H locs 0 0 (MQ below (sy_Qi E A r S') args s 0 0 A) (F0 m 2 ls []) := by
    intro n2
    induction n2 with
    | zero => intro y2 S H locs ls X hl h; have h9 : (none : sy_R) = some (r, S') := h; cases h9
    | succ n2 ih2 =>
      intro y2 S H locs ls X hl h
      have h : m_Book_firstWrong_B2 k0 (sy_fix (fun _ _ => none) (m_Book_firstWrong_B2 k0) n2) y2 S = some (r, S') := h
      unfold m_Book_firstWrong_B2 at h
      refine lv_iload_n hx hb dX0_firstWrong_2 rfl (lv_at hl 2 rfl) ?_
      refine lv_aload_n hx hb dX0_firstWrong_3 rfl (lv_at hl 0 rfl) ?_
      refine sy_g0 fx X (sy_OBook_o ht) 3 (by decide) wm_323 (fun _ h9 => h9) rfl dX0_firstWrong_4 ?_
      refine lv_icmp_ge (tgt := 58) hx hb dX0_firstWrong_7 (by decide) (fun c1 => ?_) (fun c1 => ?_)
      · have h := sy_t c1 h
        refine lv_iconst (v := (-1)) hx hb dX0_firstWrong_58 (by decide) ?_
        exact sy_iret fx X hr hlk h dX0_firstWrong_59
      · have h := sy_f c1 h
        refine lv_aload_n hx hb dX0_firstWrong_10 rfl (lv_at hl 1 rfl) ?_
        refine lv_aload_n hx hb dX0_firstWrong_11 rfl (lv_at hl 0 rfl) ?_
        refine sy_q0 fx X (sy_OBook_o ht) 0 (by decide) wm_149 (fun _ h9 => h9) rfl (sy_OBook_r0 ht) dX0_firstWrong_12 ?_
        refine lv_iload_n hx hb dX0_firstWrong_15 rfl (lv_at hl 2 rfl) ?_
        obtain ⟨g2, h⟩ := sy_g_e h
        refine sy_iald fx X (sy_OBook_a0 ht) g2 dX0_firstWrong_16 ?_
        obtain ⟨r4, S3, hc5, h⟩ := sy_c_e h
        refine sy_vi (rest := []) fx hA X hl.1 (sy_OSky_o h0) (sy_en9 (sy_OSky_o h0).2) rfl (c_Sky_isHolding l h0 hc5) cv_Sky_isHolding wm_1035 ⟨Nat.le_of_ble_eq_true rfl, Nat.le_of_ble_eq_true rfl, Nat.le_refl _, Nat.le_refl _⟩ rfl rfl (Nat.le_of_ble_eq_true rfl) dX0_firstWrong_17 (fun H locs X => ?_)
        refine lv_if_eq (tgt := 25) hx hb dX0_firstWrong_20 (by decide) (fun c6 => ?_) (fun c6 => ?_)
        · have h := sy_t c6 h
          refine lv_aload_n hx hb dX0_firstWrong_25 rfl (lv_at hl 1 rfl) ?_
          refine lv_aload_n hx hb dX0_firstWrong_26 rfl (lv_at hl 0 rfl) ?_
          refine sy_q0 fx X (sy_OBook_o ht) 0 (by decide) wm_149 (fun _ h9 => h9) rfl (sy_OBook_r0 ht) dX0_firstWrong_27 ?_
          refine lv_iload_n hx hb dX0_firstWrong_30 rfl (lv_at hl 2 rfl) ?_
          obtain ⟨g7, h⟩ := sy_g_e h
          refine sy_iald fx X (sy_OBook_a0 ht) g7 dX0_firstWrong_31 ?_
          refine lv_aload_n hx hb dX0_firstWrong_32 rfl (lv_at hl 0 rfl) ?_
          refine sy_q0 fx X (sy_OBook_o ht) 1 (by decide) wm_150 (fun _ h9 => h9) rfl (sy_OBook_r1 ht) dX0_firstWrong_33 ?_
          refine lv_iload_n hx hb dX0_firstWrong_36 rfl (lv_at hl 2 rfl) ?_
          obtain ⟨g8, h⟩ := sy_g_e h
          refine sy_iald fx X (sy_OBook_a1 ht) g8 dX0_firstWrong_37 ?_
          obtain ⟨r10, S9, hc11, h⟩ := sy_c_e h
          refine sy_vi (rest := []) fx hA X hl.1 (sy_OSky_o h0) (sy_en9 (sy_OSky_o h0).2) rfl (c_Sky_trick l h0 hc11) cv_Sky_trick wm_1036 ⟨Nat.le_of_ble_eq_true rfl, Nat.le_of_ble_eq_true rfl, Nat.le_refl _, Nat.le_refl _⟩ rfl rfl (Nat.le_of_ble_eq_true rfl) dX0_firstWrong_38 (fun H locs X => ?_)
          refine lv_aload_n hx hb dX0_firstWrong_41 rfl (lv_at hl 0 rfl) ?_
          refine sy_q0 fx X (sy_OBook_o ht) 2 (by decide) wm_151 (fun _ h9 => h9) rfl (sy_OBook_r2 ht) dX0_firstWrong_42 ?_
          refine lv_iload_n hx hb dX0_firstWrong_45 rfl (lv_at hl 2 rfl) ?_
          obtain ⟨g12, h⟩ := sy_g_e h
          refine sy_zald fx X (sy_OBook_a2 ht) g12 dX0_firstWrong_46 ?_
          refine lv_icmp_eq (tgt := 52) hx hb dX0_firstWrong_47 (by decide) (fun c13 => ?_) (fun c13 => ?_)
          · have h := sy_t c13 h
            obtain ⟨x14, hx14, h⟩ := sy_b_e h
            refine lv_iinc (v := x14) (lv' := [(2, .int x14), (0, .ref (sy_ad E 384)), (1, .ref (sy_ad E k0))]) hx hb dX0_firstWrong_52 hl (k := 2) rfl (by rw [hx14]; rfl) (by decide) rfl (fun ls hl => ?_)
            refine lv_goto (tgt := 2) hx hb dX0_firstWrong_55 (by decide) ?_
            exact ih2 x14 S9 _ _ _ X (lv_sub hl [1, 2, 0] rfl) h
          · have h := sy_f c13 h
            refine lv_iload_n hx hb dX0_firstWrong_50 rfl (lv_at hl 2 rfl) ?_
            exact sy_iret fx X hr hlk h dX0_firstWrong_51
        · have h := sy_f c6 h
          refine lv_iload_n hx hb dX0_firstWrong_23 rfl (lv_at hl 2 rfl) ?_
          exact sy_iret fx X hr hlk h dX0_firstWrong_24
  unfold m_Book_firstWrong at h
  refine lv_iconst (v := 0) hx hb dX0_firstWrong_0 (by decide) ?_
  refine lv_istore_n (lv' := [(2, .int 0), (0, .ref (sy_ad E 384)), (1, .ref (sy_ad E k0))]) hx hb dX0_firstWrong_1 rfl hl (by decide) rfl (fun ls hl => ?_)
  exact L_2 sy_F 0 S _ _ _ X (lv_sub hl [1, 2, 0] rfl) h
def m_Edge_isSon (k : Nat) (p0 : Int32) (p1 : Int32) (S : sy_St) : sy_R := sy_c (m_Edge_isPerson k p0 S) fun r2 S1 => if r2 = 0 then (some (0, S1)) else (sy_c (m_Edge_isPerson k p1 S1) fun r6 S5 => if r6 = 0 then (some (0, S5)) else (sy_g (sy_in p0 6) <| if (S5 (k + 6) p0.toNatClampNeg) = p1 then (some (1, S5)) else (some (0, S5))))
theorem cv_Edge_isSon : sy_cV RX3 yX3_isSon cX3_isSon 3 (some .boolean) 2 := ⟨wm_593, wm_594, wm_14, wm_595, by decide +kernel⟩
set_option maxRecDepth 100000 in
set_option maxHeartbeats 40000000 in
theorem c_Edge_isSon (l : Launch) {E : sy_ET} {k : Nat} (ht : sy_OEdge E k) {p0 : Int32} {p1 : Int32} {S S' : sy_St} {r : Int32} (h : m_Edge_isSon k p0 p1 S = some (r, S')) : sy_MI l yX3_isSon cX3_isSon 3 (some .boolean) 1 21 [.ref (sy_ad E k), .int p0, .int p1] E S r S' := by
  refine sy_MI_of RX3 pn_3 rfl (Nat.le_of_ble_eq_true rfl) (fun p e s m args below meth c A ls fx hr hlk hA X hl => ?_)
  have hx := fx.1
  have hb := fx.2.1
  have hown := fx.2.2.2.1
  have hts := fx.2.2.2.2
  have hl : lv_has ls 3 [(0, .ref (sy_ad E k)), (1, .int p0), (2, .int p1)] := hl
  unfold m_Edge_isSon at h
  refine lv_aload_n hx hb dX3_isSon_0 rfl (lv_at hl 0 rfl) ?_
  refine lv_iload_n hx hb dX3_isSon_1 rfl (lv_at hl 1 rfl) ?_
  obtain ⟨r2, S1, hc3, h⟩ := sy_c_e h
  refine sy_vi (rest := []) fx hA X hl.1 (sy_OEdge_o ht) (sy_en3 (sy_OEdge_o ht).2) rfl (c_Edge_isPerson l ht hc3) cv_Edge_isPerson wm_596 ⟨Nat.le_of_ble_eq_true rfl, Nat.le_of_ble_eq_true rfl, Nat.le_refl _, Nat.le_refl _⟩ rfl rfl (Nat.le_of_ble_eq_true rfl) dX3_isSon_2 (fun H locs X => ?_)
  refine lv_if_eq (tgt := 30) hx hb dX3_isSon_5 (by decide) (fun c4 => ?_) (fun c4 => ?_)
  · have h := sy_t c4 h
    refine lv_iconst (v := 0) hx hb dX3_isSon_30 (by decide) ?_
    exact sy_zret fx X hr hlk (Or.inl rfl) h dX3_isSon_31
  · have h := sy_f c4 h
    refine lv_aload_n hx hb dX3_isSon_8 rfl (lv_at hl 0 rfl) ?_
    refine lv_iload_n hx hb dX3_isSon_9 rfl (lv_at hl 2 rfl) ?_
    obtain ⟨r6, S5, hc7, h⟩ := sy_c_e h
    refine sy_vi (rest := []) fx hA X hl.1 (sy_OEdge_o ht) (sy_en3 (sy_OEdge_o ht).2) rfl (c_Edge_isPerson l ht hc7) cv_Edge_isPerson wm_596 ⟨Nat.le_of_ble_eq_true rfl, Nat.le_of_ble_eq_true rfl, Nat.le_refl _, Nat.le_refl _⟩ rfl rfl (Nat.le_of_ble_eq_true rfl) dX3_isSon_10 (fun H locs X => ?_)
    refine lv_if_eq (tgt := 30) hx hb dX3_isSon_13 (by decide) (fun c8 => ?_) (fun c8 => ?_)
    · have h := sy_t c8 h
      refine lv_iconst (v := 0) hx hb dX3_isSon_30 (by decide) ?_
      exact sy_zret fx X hr hlk (Or.inl rfl) h dX3_isSon_31
    · have h := sy_f c8 h
      refine lv_aload_n hx hb dX3_isSon_16 rfl (lv_at hl 0 rfl) ?_
      refine sy_q3 fx X (sy_OEdge_o ht) 5 (by decide) wm_69 (fun _ h9 => h9) rfl (sy_OEdge_r5 ht) dX3_isSon_17 ?_
      refine lv_iload_n hx hb dX3_isSon_20 rfl (lv_at hl 1 rfl) ?_
      obtain ⟨g9, h⟩ := sy_g_e h
      refine sy_iald fx X (sy_OEdge_a5 ht) g9 dX3_isSon_21 ?_
      refine lv_iload_n hx hb dX3_isSon_22 rfl (lv_at hl 2 rfl) ?_
      refine lv_icmp_ne (tgt := 30) hx hb dX3_isSon_23 (by decide) (fun c10 => ?_) (fun c10 => ?_)
      · have h := sy_f c10 h
        refine lv_iconst (v := 0) hx hb dX3_isSon_30 (by decide) ?_
        exact sy_zret fx X hr hlk (Or.inl rfl) h dX3_isSon_31
      · have h := sy_t c10 h
        refine lv_iconst (v := 1) hx hb dX3_isSon_26 (by decide) ?_
        refine lv_goto (tgt := 31) hx hb dX3_isSon_27 (by decide) ?_
        exact sy_zret fx X hr hlk (Or.inr rfl) h dX3_isSon_31
def m_Chain_isStep (p0 : Int32) (p1 : Int32) (S : sy_St) : sy_R := if p0 = (-1) then (sy_g (sy_in p1 6) <| sy_g ((S 381 p1.toNatClampNeg) = 0 ∨ (S 381 p1.toNatClampNeg) = 1) <| some (S 381 p1.toNatClampNeg, S)) else (if p0 = p1 then (some (0, S)) else (sy_g (sy_in p1 6) <| if (S 380 p1.toNatClampNeg) = 0 then (sy_c (m_Edge_isSon 1 p1 p0 S) fun r6 S5 => if r6 = 0 then (some (0, S5)) else (some (1, S5))) else (some (1, S))))
theorem cv_Chain_isStep : sy_cV RX1 yX1_isStep cX1_isStep 3 (some .boolean) 2 := ⟨wm_820, wm_821, wm_44, wm_822, by decide +kernel⟩
set_option maxRecDepth 100000 in
set_option maxHeartbeats 40000000 in
theorem c_Chain_isStep (l : Launch) {E : sy_ET} (ht : sy_OChain E) {p0 : Int32} {p1 : Int32} {S S' : sy_St} {r : Int32} (h : m_Chain_isStep p0 p1 S = some (r, S')) : sy_MI l yX1_isStep cX1_isStep 3 (some .boolean) 2 43 [.ref (sy_ad E 379), .int p0, .int p1] E S r S' := by
  refine sy_MI_of RX1 pn_1 rfl (Nat.le_of_ble_eq_true rfl) (fun p e s m args below meth c A ls fx hr hlk hA X hl => ?_)
  have hx := fx.1
  have hb := fx.2.1
  have hown := fx.2.2.2.1
  have hts := fx.2.2.2.2
  have hl : lv_has ls 3 [(0, .ref (sy_ad E 379)), (1, .int p0), (2, .int p1)] := hl
  unfold m_Chain_isStep at h
  refine lv_iload_n hx hb dX1_isStep_0 rfl (lv_at hl 1 rfl) ?_
  refine lv_iconst (v := (-1)) hx hb dX1_isStep_1 (by decide) ?_
  refine lv_icmp_ne (tgt := 12) hx hb dX1_isStep_2 (by decide) (fun c1 => ?_) (fun c1 => ?_)
  · have h := sy_f c1 h
    refine lv_iload_n hx hb dX1_isStep_12 rfl (lv_at hl 1 rfl) ?_
    refine lv_iload_n hx hb dX1_isStep_13 rfl (lv_at hl 2 rfl) ?_
    refine lv_icmp_eq (tgt := 42) hx hb dX1_isStep_14 (by decide) (fun c2 => ?_) (fun c2 => ?_)
    · have h := sy_t c2 h
      refine lv_iconst (v := 0) hx hb dX1_isStep_42 (by decide) ?_
      exact sy_zret fx X hr hlk (Or.inl rfl) h dX1_isStep_43
    · have h := sy_f c2 h
      refine lv_aload_n hx hb dX1_isStep_17 rfl (lv_at hl 0 rfl) ?_
      refine sy_q1 fx X (sy_OChain_o ht) 1 (by decide) wm_141 (fun _ h9 => h9) rfl (sy_OChain_r1 ht) dX1_isStep_18 ?_
      refine lv_iload_n hx hb dX1_isStep_21 rfl (lv_at hl 2 rfl) ?_
      obtain ⟨g3, h⟩ := sy_g_e h
      refine sy_zald fx X (sy_OChain_a1 ht) g3 dX1_isStep_22 ?_
      refine lv_if_ne (tgt := 38) hx hb dX1_isStep_23 (by decide) (fun c4 => ?_) (fun c4 => ?_)
      · have h := sy_f c4 h
        refine lv_iconst (v := 1) hx hb dX1_isStep_38 (by decide) ?_
        refine lv_goto (tgt := 43) hx hb dX1_isStep_39 (by decide) ?_
        exact sy_zret fx X hr hlk (Or.inr rfl) h dX1_isStep_43
      · have h := sy_t c4 h
        refine lv_aload_n hx hb dX1_isStep_26 rfl (lv_at hl 0 rfl) ?_
        refine sy_q1 fx X (sy_OChain_o ht) 0 (by decide) wm_145 (fun _ h9 => h9) rfl (sy_OChain_r0 ht) dX1_isStep_27 ?_
        refine lv_iload_n hx hb dX1_isStep_30 rfl (lv_at hl 2 rfl) ?_
        refine lv_iload_n hx hb dX1_isStep_31 rfl (lv_at hl 1 rfl) ?_
        obtain ⟨r6, S5, hc7, h⟩ := sy_c_e h
        refine sy_vi (rest := []) fx hA X hl.1 (sy_OEdge_o (sy_OChain_a0 ht)) (sy_en3 (sy_OEdge_o (sy_OChain_a0 ht)).2) rfl (c_Edge_isSon l (sy_OChain_a0 ht) hc7) cv_Edge_isSon wm_823 ⟨Nat.le_of_ble_eq_true rfl, Nat.le_of_ble_eq_true rfl, Nat.le_refl _, Nat.le_refl _⟩ rfl rfl (Nat.le_of_ble_eq_true rfl) dX1_isStep_32 (fun H locs X => ?_)
        refine lv_if_eq (tgt := 42) hx hb dX1_isStep_35 (by decide) (fun c8 => ?_) (fun c8 => ?_)
        · have h := sy_t c8 h
          refine lv_iconst (v := 0) hx hb dX1_isStep_42 (by decide) ?_
          exact sy_zret fx X hr hlk (Or.inl rfl) h dX1_isStep_43
        · have h := sy_f c8 h
          refine lv_iconst (v := 1) hx hb dX1_isStep_38 (by decide) ?_
          refine lv_goto (tgt := 43) hx hb dX1_isStep_39 (by decide) ?_
          exact sy_zret fx X hr hlk (Or.inr rfl) h dX1_isStep_43
  · have h := sy_t c1 h
    refine lv_aload_n hx hb dX1_isStep_5 rfl (lv_at hl 0 rfl) ?_
    refine sy_q1 fx X (sy_OChain_o ht) 2 (by decide) wm_142 (fun _ h9 => h9) rfl (sy_OChain_r2 ht) dX1_isStep_6 ?_
    refine lv_iload_n hx hb dX1_isStep_9 rfl (lv_at hl 2 rfl) ?_
    obtain ⟨g9, h⟩ := sy_g_e h
    refine sy_zald fx X (sy_OChain_a2 ht) g9 dX1_isStep_10 ?_
    obtain ⟨g10, h⟩ := sy_g_e h
    exact sy_zret fx X hr hlk g10 h dX1_isStep_11
def m_Chain_leadsOn_B2 (kk2 : Int32 → Int32 → Int32 → sy_St → sy_R) (y1 : Int32) (y2 : Int32) (y3 : Int32) (S : sy_St) : sy_R := if (S 1 8) ≤ y3 then (some (0, S)) else (sy_g (sy_in y3 6) <| if (S 382 y3.toNatClampNeg) = y2 then (sy_c (m_Chain_isStep y1 y3 S) fun r6 S5 => if r6 = 0 then (sy_b (y3 + 1 : Int32) fun x9 => kk2 y1 y2 x9 S5) else (some (1, S5))) else (sy_b (y3 + 1 : Int32) fun x4 => kk2 y1 y2 x4 S))
def m_Chain_leadsOn (p0 : Int32) (p1 : Int32) (S : sy_St) : sy_R := sy_fix (fun _ _ _ _ => none) (m_Chain_leadsOn_B2) sy_F p0 p1 0 S
theorem cv_Chain_leadsOn : sy_cV RX1 yX1_leadsOn cX1_leadsOn 4 (some .boolean) 2 := ⟨wm_816, wm_817, wm_44, wm_818, by decide +kernel⟩
set_option maxRecDepth 100000 in
set_option maxHeartbeats 40000000 in
theorem c_Chain_leadsOn (l : Launch) {E : sy_ET} (ht : sy_OChain E) {p0 : Int32} {p1 : Int32} {S S' : sy_St} {r : Int32} (h : m_Chain_leadsOn p0 p1 S = some (r, S')) : sy_MI l yX1_leadsOn cX1_leadsOn 4 (some .boolean) 3 65 [.ref (sy_ad E 379), .int p0, .int p1] E S r S' := by
  refine sy_MI_of RX1 pn_1 rfl (Nat.le_of_ble_eq_true rfl) (fun p e s m args below meth c A ls fx hr hlk hA X hl => ?_)
  have hx := fx.1
  have hb := fx.2.1
  have hown := fx.2.2.2.1
  have hts := fx.2.2.2.2
  have hl : lv_has ls 4 [(0, .ref (sy_ad E 379)), (1, .int p0), (2, .int p1)] := hl
  have L_2 : ∀ (n2 : Nat) (y1 y2 y3 : Int32) (S : sy_St) (H : Heap) (locs : List Loc) (ls : Array Slot), sy_Wd E A s S H locs → lv_has ls 4 [(0, .ref (sy_ad E 379)), (1, .int y1), (2, .int y2), (3, .int y3)] → sy_fix (fun _ _ _ _ => none) (m_Chain_leadsOn_B2) n2 y1 y2 y3 S = some (r, S') → W p l e (sy_rm 3 65) s m args below meth c H locs 0 0 (MQ below (sy_Qi E A r S') args s 0 0 A) (F0 m 2 ls []) := by
    intro n2
    induction n2 with
    | zero => intro y1 y2 y3 S H locs ls X hl h; have h9 : (none : sy_R) = some (r, S') := h; cases h9
    | succ n2 ih2 =>
      intro y1 y2 y3 S H locs ls X hl h
      have h : m_Chain_leadsOn_B2 (sy_fix (fun _ _ _ _ => none) (m_Chain_leadsOn_B2) n2) y1 y2 y3 S = some (r, S') := h
      unfold m_Chain_leadsOn_B2 at h
      refine lv_iload_n hx hb dX1_leadsOn_2 rfl (lv_at hl 3 rfl) ?_
      refine lv_aload_n hx hb dX1_leadsOn_3 rfl (lv_at hl 0 rfl) ?_
      refine sy_q1 fx X (sy_OChain_o ht) 0 (by decide) wm_145 (fun _ h9 => h9) rfl (sy_OChain_r0 ht) dX1_leadsOn_4 ?_
      refine sy_g3 fx X (sy_OEdge_o (sy_OChain_a0 ht)) 8 (by decide) wm_804 (fun _ h9 => h9) rfl dX1_leadsOn_7 ?_
      refine lv_icmp_ge (tgt := 40) hx hb dX1_leadsOn_10 (by decide) (fun c1 => ?_) (fun c1 => ?_)
      · have h := sy_t c1 h
        refine lv_iconst (v := 0) hx hb dX1_leadsOn_40 (by decide) ?_
        exact sy_zret fx X hr hlk (Or.inl rfl) h dX1_leadsOn_41
      · have h := sy_f c1 h
        refine lv_aload_n hx hb dX1_leadsOn_13 rfl (lv_at hl 0 rfl) ?_
        refine sy_q1 fx X (sy_OChain_o ht) 3 (by decide) wm_143 (fun _ h9 => h9) rfl (sy_OChain_r3 ht) dX1_leadsOn_14 ?_
        refine lv_iload_n hx hb dX1_leadsOn_17 rfl (lv_at hl 3 rfl) ?_
        obtain ⟨g2, h⟩ := sy_g_e h
        refine sy_iald fx X (sy_OChain_a3 ht) g2 dX1_leadsOn_18 ?_
        refine lv_iload_n hx hb dX1_leadsOn_19 rfl (lv_at hl 2 rfl) ?_
        refine lv_icmp_ne (tgt := 34) hx hb dX1_leadsOn_20 (by decide) (fun c3 => ?_) (fun c3 => ?_)
        · have h := sy_f c3 h
          obtain ⟨x4, hx4, h⟩ := sy_b_e h
          refine lv_iinc (v := x4) (lv' := [(3, .int x4), (0, .ref (sy_ad E 379)), (1, .int y1), (2, .int y2)]) hx hb dX1_leadsOn_34 hl (k := 3) rfl (by rw [hx4]; rfl) (by decide) rfl (fun ls hl => ?_)
          refine lv_goto (tgt := 2) hx hb dX1_leadsOn_37 (by decide) ?_
          exact ih2 y1 y2 x4 S _ _ _ X (lv_sub hl [1, 2, 3, 0] rfl) h
        · have h := sy_t c3 h
          refine lv_aload_n hx hb dX1_leadsOn_23 rfl (lv_at hl 0 rfl) ?_
          refine lv_iload_n hx hb dX1_leadsOn_24 rfl (lv_at hl 1 rfl) ?_
          refine lv_iload_n hx hb dX1_leadsOn_25 rfl (lv_at hl 3 rfl) ?_
          obtain ⟨r6, S5, hc7, h⟩ := sy_c_e h
          refine sy_vi (rest := []) fx hA X hl.1 (sy_OChain_o ht) (sy_en1 (sy_OChain_o ht).2) rfl (c_Chain_isStep l ht hc7) cv_Chain_isStep wm_819 ⟨Nat.le_of_ble_eq_true rfl, Nat.le_of_ble_eq_true rfl, Nat.le_refl _, Nat.le_refl _⟩ rfl rfl (Nat.le_of_ble_eq_true rfl) dX1_leadsOn_26 (fun H locs X => ?_)
          refine lv_if_eq (tgt := 34) hx hb dX1_leadsOn_29 (by decide) (fun c8 => ?_) (fun c8 => ?_)
          · have h := sy_t c8 h
            obtain ⟨x9, hx9, h⟩ := sy_b_e h
            refine lv_iinc (v := x9) (lv' := [(3, .int x9), (0, .ref (sy_ad E 379)), (1, .int y1), (2, .int y2)]) hx hb dX1_leadsOn_34 hl (k := 3) rfl (by rw [hx9]; rfl) (by decide) rfl (fun ls hl => ?_)
            refine lv_goto (tgt := 2) hx hb dX1_leadsOn_37 (by decide) ?_
            exact ih2 y1 y2 x9 S5 _ _ _ X (lv_sub hl [1, 2, 3, 0] rfl) h
          · have h := sy_f c8 h
            refine lv_iconst (v := 1) hx hb dX1_leadsOn_32 (by decide) ?_
            exact sy_zret fx X hr hlk (Or.inr rfl) h dX1_leadsOn_33
  unfold m_Chain_leadsOn at h
  refine lv_iconst (v := 0) hx hb dX1_leadsOn_0 (by decide) ?_
  refine lv_istore_n (lv' := [(3, .int 0), (0, .ref (sy_ad E 379)), (1, .int p0), (2, .int p1)]) hx hb dX1_leadsOn_1 rfl hl (by decide) rfl (fun ls hl => ?_)
  exact L_2 sy_F p0 p1 0 S _ _ _ X (lv_sub hl [1, 2, 3, 0] rfl) h
def m_Chain_countSteps_B45 (kk32 : Int32 → sy_St → sy_R) (kk45 : Int32 → Int32 → sy_St → sy_R) (y2 : Int32) (y3 : Int32) (S : sy_St) : sy_R := if (S 1 8) ≤ y3 then (sy_b (y2 + 1 : Int32) fun x11 => kk32 x11 S) else (sy_g (sy_in y3 6) <| if (S 382 y3.toNatClampNeg) = (-1) then (sy_c (m_Chain_leadsOn y3 (y2 - 1) S) fun r16 S15 => if r16 = 0 then (sy_b (y3 + 1 : Int32) fun x19 => kk45 y2 x19 S15) else (sy_g (sy_in y3 6) <| sy_b (sy_up S15 382 y3.toNatClampNeg y2) fun S21 => sy_b (y3 + 1 : Int32) fun x22 => kk45 y2 x22 S21)) else (sy_b (y3 + 1 : Int32) fun x14 => kk45 y2 x14 S))
def m_Chain_countSteps_B32 (kk32 : Int32 → sy_St → sy_R) (y2 : Int32) (S : sy_St) : sy_R := if (S 1 8) ≤ y2 then (some (0, S)) else (sy_fix (fun _ _ _ => none) (m_Chain_countSteps_B45 kk32) sy_F y2 0 S)
def m_Chain_countSteps_B2 (kk2 : Int32 → Int32 → sy_St → sy_R) (y1 : Int32) (y2 : Int32) (S : sy_St) : sy_R := if 6 ≤ y2 then (sy_fix (fun _ _ => none) (m_Chain_countSteps_B32) sy_F 1 S) else (if y2 = y1 then (sy_g (sy_in y2 6) <| sy_b (sy_up S 382 y2.toNatClampNeg 0) fun S7 => sy_b (y2 + 1 : Int32) fun x8 => kk2 y1 x8 S7) else (sy_g (sy_in y2 6) <| sy_b (sy_up S 382 y2.toNatClampNeg (-1)) fun S4 => sy_b (y2 + 1 : Int32) fun x5 => kk2 y1 x5 S4))
def m_Chain_countSteps (p0 : Int32) (S : sy_St) : sy_R := sy_fix (fun _ _ _ => none) (m_Chain_countSteps_B2) sy_F p0 0 S
theorem cv_Chain_countSteps : sy_cV RX1 yX1_countSteps cX1_countSteps 4 none 1 := ⟨wm_812, wm_813, wm_44, wm_814, by decide +kernel⟩
set_option maxRecDepth 100000 in
set_option maxHeartbeats 40000000 in
theorem c_Chain_countSteps (l : Launch) {E : sy_ET} (ht : sy_OChain E) {p0 : Int32} {S S' : sy_St} {r : Int32} (h : m_Chain_countSteps p0 S = some (r, S')) : sy_MV l yX1_countSteps cX1_countSteps 4 4 88 [.ref (sy_ad E 379), .int p0] E S S' := by
  refine sy_MV_of RX1 pn_1 rfl (Nat.le_of_ble_eq_true rfl) (fun p e s m args below meth c A ls fx hr hlk hA X hl => ?_)
  have hx := fx.1
  have hb := fx.2.1
  have hown := fx.2.2.2.1
  have hts := fx.2.2.2.2
  have hl : lv_has ls 4 [(0, .ref (sy_ad E 379)), (1, .int p0)] := hl
  have L_32 : ∀ (n32 : Nat) (y2 : Int32) (S : sy_St) (H : Heap) (locs : List Loc) (ls : Array Slot), sy_Wd E A s S H locs → lv_has ls 4 [(0, .ref (sy_ad E 379)), (2, .int y2)] → sy_fix (fun _ _ => none) (m_Chain_countSteps_B32) n32 y2 S = some (r, S') → W p l e (sy_rm 4 88) s m args below meth c H locs 0 0 (MQ below (sy_Qv E A S') args s 0 0 A) (F0 m 32 ls []) := by
    intro n32
    induction n32 with
    | zero => intro y2 S H locs ls X hl h; have h9 : (none : sy_R) = some (r, S') := h; cases h9
    | succ n32 ih32 =>
      have L_45 : ∀ (n45 : Nat) (y2 y3 : Int32) (S : sy_St) (H : Heap) (locs : List Loc) (ls : Array Slot), sy_Wd E A s S H locs → lv_has ls 4 [(0, .ref (sy_ad E 379)), (2, .int y2), (3, .int y3)] → sy_fix (fun _ _ _ => none) (m_Chain_countSteps_B45 (sy_fix (fun _ _ => none) (m_Chain_countSteps_B32) n32)) n45 y2 y3 S = some (r, S') → W p l e (sy_rm 4 88) s m args below meth c H locs 0 0 (MQ below (sy_Qv E A S') args s 0 0 A) (F0 m 45 ls []) := by
        intro n45
        induction n45 with
        | zero => intro y2 y3 S H locs ls X hl h; have h9 : (none : sy_R) = some (r, S') := h; cases h9
        | succ n45 ih45 =>
          intro y2 y3 S H locs ls X hl h
          have h : m_Chain_countSteps_B45 (sy_fix (fun _ _ => none) (m_Chain_countSteps_B32) n32) (sy_fix (fun _ _ _ => none) (m_Chain_countSteps_B45 (sy_fix (fun _ _ => none) (m_Chain_countSteps_B32) n32)) n45) y2 y3 S = some (r, S') := h
          unfold m_Chain_countSteps_B45 at h
          refine lv_iload_n hx hb dX1_countSteps_45 rfl (lv_at hl 2 rfl) ?_
          refine lv_aload_n hx hb dX1_countSteps_46 rfl (lv_at hl 0 rfl) ?_
          refine sy_q1 fx X (sy_OChain_o ht) 0 (by decide) wm_145 (fun _ h9 => h9) rfl (sy_OChain_r0 ht) dX1_countSteps_47 ?_
          refine sy_g3 fx X (sy_OEdge_o (sy_OChain_a0 ht)) 8 (by decide) wm_804 (fun _ h9 => h9) rfl dX1_countSteps_50 ?_
          refine lv_icmp_ge (tgt := 90) hx hb dX1_countSteps_53 (by decide) (fun c10 => ?_) (fun c10 => ?_)
          · have h := sy_t c10 h
            obtain ⟨x11, hx11, h⟩ := sy_b_e h
            refine lv_iinc (v := x11) (lv' := [(2, .int x11), (0, .ref (sy_ad E 379)), (3, .int y3)]) hx hb dX1_countSteps_90 hl (k := 1) rfl (by rw [hx11]; rfl) (by decide) rfl (fun ls hl => ?_)
            refine lv_goto (tgt := 32) hx hb dX1_countSteps_93 (by decide) ?_
            exact ih32 x11 S _ _ _ X (lv_sub hl [1, 0] rfl) h
          · have h := sy_f c10 h
            refine lv_aload_n hx hb dX1_countSteps_56 rfl (lv_at hl 0 rfl) ?_
            refine sy_q1 fx X (sy_OChain_o ht) 3 (by decide) wm_143 (fun _ h9 => h9) rfl (sy_OChain_r3 ht) dX1_countSteps_57 ?_
            refine lv_iload_n hx hb dX1_countSteps_60 rfl (lv_at hl 2 rfl) ?_
            obtain ⟨g12, h⟩ := sy_g_e h
            refine sy_iald fx X (sy_OChain_a3 ht) g12 dX1_countSteps_61 ?_
            refine lv_iconst (v := (-1)) hx hb dX1_countSteps_62 (by decide) ?_
            refine lv_icmp_ne (tgt := 84) hx hb dX1_countSteps_63 (by decide) (fun c13 => ?_) (fun c13 => ?_)
            · have h := sy_f c13 h
              obtain ⟨x14, hx14, h⟩ := sy_b_e h
              refine lv_iinc (v := x14) (lv' := [(3, .int x14), (0, .ref (sy_ad E 379)), (2, .int y2)]) hx hb dX1_countSteps_84 hl (k := 2) rfl (by rw [hx14]; rfl) (by decide) rfl (fun ls hl => ?_)
              refine lv_goto (tgt := 45) hx hb dX1_countSteps_87 (by decide) ?_
              exact ih45 y2 x14 S _ _ _ X (lv_sub hl [1, 2, 0] rfl) h
            · have h := sy_t c13 h
              refine lv_aload_n hx hb dX1_countSteps_66 rfl (lv_at hl 0 rfl) ?_
              refine lv_iload_n hx hb dX1_countSteps_67 rfl (lv_at hl 2 rfl) ?_
              refine lv_iload_n hx hb dX1_countSteps_68 rfl (lv_at hl 1 rfl) ?_
              refine lv_iconst (v := 1) hx hb dX1_countSteps_69 (by decide) ?_
              refine lv_isub hx hb dX1_countSteps_70 ?_
              obtain ⟨r16, S15, hc17, h⟩ := sy_c_e h
              refine sy_vi (rest := []) fx hA X hl.1 (sy_OChain_o ht) (sy_en1 (sy_OChain_o ht).2) rfl (c_Chain_leadsOn l ht hc17) cv_Chain_leadsOn wm_815 ⟨Nat.le_of_ble_eq_true rfl, Nat.le_of_ble_eq_true rfl, Nat.le_refl _, Nat.le_refl _⟩ rfl rfl (Nat.le_of_ble_eq_true rfl) dX1_countSteps_71 (fun H locs X => ?_)
              refine lv_if_eq (tgt := 84) hx hb dX1_countSteps_74 (by decide) (fun c18 => ?_) (fun c18 => ?_)
              · have h := sy_t c18 h
                obtain ⟨x19, hx19, h⟩ := sy_b_e h
                refine lv_iinc (v := x19) (lv' := [(3, .int x19), (0, .ref (sy_ad E 379)), (2, .int y2)]) hx hb dX1_countSteps_84 hl (k := 2) rfl (by rw [hx19]; rfl) (by decide) rfl (fun ls hl => ?_)
                refine lv_goto (tgt := 45) hx hb dX1_countSteps_87 (by decide) ?_
                exact ih45 y2 x19 S15 _ _ _ X (lv_sub hl [1, 2, 0] rfl) h
              · have h := sy_f c18 h
                refine lv_aload_n hx hb dX1_countSteps_77 rfl (lv_at hl 0 rfl) ?_
                refine sy_q1 fx X (sy_OChain_o ht) 3 (by decide) wm_143 (fun _ h9 => h9) rfl (sy_OChain_r3 ht) dX1_countSteps_78 ?_
                refine lv_iload_n hx hb dX1_countSteps_81 rfl (lv_at hl 2 rfl) ?_
                refine lv_iload_n hx hb dX1_countSteps_82 rfl (lv_at hl 1 rfl) ?_
                obtain ⟨g20, h⟩ := sy_g_e h
                obtain ⟨S21, hS21, h⟩ := sy_b_e h
                refine sy_iast fx X (sy_OChain_a3 ht) g20 hS21 dX1_countSteps_83 (fun H locs X => ?_)
                obtain ⟨x22, hx22, h⟩ := sy_b_e h
                refine lv_iinc (v := x22) (lv' := [(3, .int x22), (0, .ref (sy_ad E 379)), (2, .int y2)]) hx hb dX1_countSteps_84 hl (k := 2) rfl (by rw [hx22]; rfl) (by decide) rfl (fun ls hl => ?_)
                refine lv_goto (tgt := 45) hx hb dX1_countSteps_87 (by decide) ?_
                exact ih45 y2 x22 S21 _ _ _ X (lv_sub hl [1, 2, 0] rfl) h
      intro y2 S H locs ls X hl h
      have h : m_Chain_countSteps_B32 (sy_fix (fun _ _ => none) (m_Chain_countSteps_B32) n32) y2 S = some (r, S') := h
      unfold m_Chain_countSteps_B32 at h
      refine lv_iload_n hx hb dX1_countSteps_32 rfl (lv_at hl 1 rfl) ?_
      refine lv_aload_n hx hb dX1_countSteps_33 rfl (lv_at hl 0 rfl) ?_
      refine sy_q1 fx X (sy_OChain_o ht) 0 (by decide) wm_145 (fun _ h9 => h9) rfl (sy_OChain_r0 ht) dX1_countSteps_34 ?_
      refine sy_g3 fx X (sy_OEdge_o (sy_OChain_a0 ht)) 8 (by decide) wm_804 (fun _ h9 => h9) rfl dX1_countSteps_37 ?_
      refine lv_icmp_ge (tgt := 96) hx hb dX1_countSteps_40 (by decide) (fun c9 => ?_) (fun c9 => ?_)
      · have h := sy_t c9 h
        exact sy_vret fx X hr hlk h dX1_countSteps_96
      · have h := sy_f c9 h
        refine lv_iconst (v := 0) hx hb dX1_countSteps_43 (by decide) ?_
        refine lv_istore_n (lv' := [(3, .int 0), (0, .ref (sy_ad E 379)), (2, .int y2)]) hx hb dX1_countSteps_44 rfl hl (by decide) rfl (fun ls hl => ?_)
        exact L_45 sy_F y2 0 S _ _ _ X (lv_sub hl [1, 2, 0] rfl) h
  have L_2 : ∀ (n2 : Nat) (y1 y2 : Int32) (S : sy_St) (H : Heap) (locs : List Loc) (ls : Array Slot), sy_Wd E A s S H locs → lv_has ls 4 [(0, .ref (sy_ad E 379)), (1, .int y1), (2, .int y2)] → sy_fix (fun _ _ _ => none) (m_Chain_countSteps_B2) n2 y1 y2 S = some (r, S') → W p l e (sy_rm 4 88) s m args below meth c H locs 0 0 (MQ below (sy_Qv E A S') args s 0 0 A) (F0 m 2 ls []) := by
    intro n2
    induction n2 with
    | zero => intro y1 y2 S H locs ls X hl h; have h9 : (none : sy_R) = some (r, S') := h; cases h9
    | succ n2 ih2 =>
      intro y1 y2 S H locs ls X hl h
      have h : m_Chain_countSteps_B2 (sy_fix (fun _ _ _ => none) (m_Chain_countSteps_B2) n2) y1 y2 S = some (r, S') := h
      unfold m_Chain_countSteps_B2 at h
      refine lv_iload_n hx hb dX1_countSteps_2 rfl (lv_at hl 2 rfl) ?_
      refine lv_bipush (v := 6) hx hb dX1_countSteps_3 (by decide) ?_
      refine lv_icmp_ge (tgt := 30) hx hb dX1_countSteps_5 (by decide) (fun c1 => ?_) (fun c1 => ?_)
      · have h := sy_t c1 h
        refine lv_iconst (v := 1) hx hb dX1_countSteps_30 (by decide) ?_
        refine lv_istore_n (lv' := [(2, .int 1), (0, .ref (sy_ad E 379)), (1, .int y1)]) hx hb dX1_countSteps_31 rfl hl (by decide) rfl (fun ls hl => ?_)
        exact L_32 sy_F 1 S _ _ _ X (lv_sub hl [1, 0] rfl) h
      · have h := sy_f c1 h
        refine lv_aload_n hx hb dX1_countSteps_8 rfl (lv_at hl 0 rfl) ?_
        refine sy_q1 fx X (sy_OChain_o ht) 3 (by decide) wm_143 (fun _ h9 => h9) rfl (sy_OChain_r3 ht) dX1_countSteps_9 ?_
        refine lv_iload_n hx hb dX1_countSteps_12 rfl (lv_at hl 2 rfl) ?_
        refine lv_iload_n hx hb dX1_countSteps_13 rfl (lv_at hl 2 rfl) ?_
        refine lv_iload_n hx hb dX1_countSteps_14 rfl (lv_at hl 1 rfl) ?_
        refine lv_icmp_ne (tgt := 22) hx hb dX1_countSteps_15 (by decide) (fun c2 => ?_) (fun c2 => ?_)
        · have h := sy_f c2 h
          refine lv_iconst (v := (-1)) hx hb dX1_countSteps_22 (by decide) ?_
          obtain ⟨g3, h⟩ := sy_g_e h
          obtain ⟨S4, hS4, h⟩ := sy_b_e h
          refine sy_iast fx X (sy_OChain_a3 ht) g3 hS4 dX1_countSteps_23 (fun H locs X => ?_)
          obtain ⟨x5, hx5, h⟩ := sy_b_e h
          refine lv_iinc (v := x5) (lv' := [(2, .int x5), (0, .ref (sy_ad E 379)), (1, .int y1)]) hx hb dX1_countSteps_24 hl (k := 2) rfl (by rw [hx5]; rfl) (by decide) rfl (fun ls hl => ?_)
          refine lv_goto (tgt := 2) hx hb dX1_countSteps_27 (by decide) ?_
          exact ih2 y1 x5 S4 _ _ _ X (lv_sub hl [1, 2, 0] rfl) h
        · have h := sy_t c2 h
          refine lv_iconst (v := 0) hx hb dX1_countSteps_18 (by decide) ?_
          refine lv_goto (tgt := 23) hx hb dX1_countSteps_19 (by decide) ?_
          obtain ⟨g6, h⟩ := sy_g_e h
          obtain ⟨S7, hS7, h⟩ := sy_b_e h
          refine sy_iast fx X (sy_OChain_a3 ht) g6 hS7 dX1_countSteps_23 (fun H locs X => ?_)
          obtain ⟨x8, hx8, h⟩ := sy_b_e h
          refine lv_iinc (v := x8) (lv' := [(2, .int x8), (0, .ref (sy_ad E 379)), (1, .int y1)]) hx hb dX1_countSteps_24 hl (k := 2) rfl (by rw [hx8]; rfl) (by decide) rfl (fun ls hl => ?_)
          refine lv_goto (tgt := 2) hx hb dX1_countSteps_27 (by decide) ?_
          exact ih2 y1 x8 S7 _ _ _ X (lv_sub hl [1, 2, 0] rfl) h
  unfold m_Chain_countSteps at h
  refine lv_iconst (v := 0) hx hb dX1_countSteps_0 (by decide) ?_
  refine lv_istore_n (lv' := [(2, .int 0), (0, .ref (sy_ad E 379)), (1, .int p0)]) hx hb dX1_countSteps_1 rfl hl (by decide) rfl (fun ls hl => ?_)
  exact L_2 sy_F p0 0 S _ _ _ X (lv_sub hl [1, 2, 0] rfl) h
def m_Sky_isTrickedBySome_B2 (k : Nat) (kk2 : Int32 → Int32 → sy_St → sy_R) (y1 : Int32) (y2 : Int32) (S : sy_St) : sy_R := if 3 ≤ y2 then (some (0, S)) else (sy_c (m_Sky_isTrickedBy k y1 y2 S) fun r3 S2 => if r3 = 0 then (sy_b (y2 + 1 : Int32) fun x6 => kk2 y1 x6 S2) else (some (1, S2)))
def m_Sky_isTrickedBySome (k : Nat) (p0 : Int32) (S : sy_St) : sy_R := sy_fix (fun _ _ _ => none) (m_Sky_isTrickedBySome_B2 k) sy_F p0 0 S
theorem cv_Sky_isTrickedBySome : sy_cV RX10 yX10_isTrickedBySome cX10_isTrickedBySome 3 (some .boolean) 1 := ⟨wm_807, wm_808, wm_17, wm_809, by decide +kernel⟩
set_option maxRecDepth 100000 in
set_option maxHeartbeats 40000000 in
theorem c_Sky_isTrickedBySome (l : Launch) {E : sy_ET} {k : Nat} (ht : sy_OSky E k) {p0 : Int32} {S S' : sy_St} {r : Int32} (h : m_Sky_isTrickedBySome k p0 S = some (r, S')) : sy_MI l yX10_isTrickedBySome cX10_isTrickedBySome 3 (some .boolean) 2 43 [.ref (sy_ad E k), .int p0] E S r S' := by
  refine sy_MI_of RX10 pn_10 rfl (Nat.le_of_ble_eq_true rfl) (fun p e s m args below meth c A ls fx hr hlk hA X hl => ?_)
  have hx := fx.1
  have hb := fx.2.1
  have hown := fx.2.2.2.1
  have hts := fx.2.2.2.2
  have hl : lv_has ls 3 [(0, .ref (sy_ad E k)), (1, .int p0)] := hl
  have L_2 : ∀ (n2 : Nat) (y1 y2 : Int32) (S : sy_St) (H : Heap) (locs : List Loc) (ls : Array Slot), sy_Wd E A s S H locs → lv_has ls 3 [(0, .ref (sy_ad E k)), (1, .int y1), (2, .int y2)] → sy_fix (fun _ _ _ => none) (m_Sky_isTrickedBySome_B2 k) n2 y1 y2 S = some (r, S') → W p l e (sy_rm 2 43) s m args below meth c H locs 0 0 (MQ below (sy_Qi E A r S') args s 0 0 A) (F0 m 2 ls []) := by
    intro n2
    induction n2 with
    | zero => intro y1 y2 S H locs ls X hl h; have h9 : (none : sy_R) = some (r, S') := h; cases h9
    | succ n2 ih2 =>
      intro y1 y2 S H locs ls X hl h
      have h : m_Sky_isTrickedBySome_B2 k (sy_fix (fun _ _ _ => none) (m_Sky_isTrickedBySome_B2 k) n2) y1 y2 S = some (r, S') := h
      unfold m_Sky_isTrickedBySome_B2 at h
      refine lv_iload_n hx hb dX10_isTrickedBySome_2 rfl (lv_at hl 2 rfl) ?_
      refine lv_iconst (v := 3) hx hb dX10_isTrickedBySome_3 (by decide) ?_
      refine lv_icmp_ge (tgt := 24) hx hb dX10_isTrickedBySome_4 (by decide) (fun c1 => ?_) (fun c1 => ?_)
      · have h := sy_t c1 h
        refine lv_iconst (v := 0) hx hb dX10_isTrickedBySome_24 (by decide) ?_
        exact sy_zret fx X hr hlk (Or.inl rfl) h dX10_isTrickedBySome_25
      · have h := sy_f c1 h
        refine lv_aload_n hx hb dX10_isTrickedBySome_7 rfl (lv_at hl 0 rfl) ?_
        refine lv_iload_n hx hb dX10_isTrickedBySome_8 rfl (lv_at hl 1 rfl) ?_
        refine lv_iload_n hx hb dX10_isTrickedBySome_9 rfl (lv_at hl 2 rfl) ?_
        obtain ⟨r3, S2, hc4, h⟩ := sy_c_e h
        refine sy_vi (rest := []) fx hA X hl.1 (sy_OSky_o ht) (sy_en9 (sy_OSky_o ht).2) rfl (c_Sky_isTrickedBy l ht hc4) cv_Sky_isTrickedBy wm_556 ⟨Nat.le_of_ble_eq_true rfl, Nat.le_of_ble_eq_true rfl, Nat.le_refl _, Nat.le_refl _⟩ rfl rfl (Nat.le_of_ble_eq_true rfl) dX10_isTrickedBySome_10 (fun H locs X => ?_)
        refine lv_if_eq (tgt := 18) hx hb dX10_isTrickedBySome_13 (by decide) (fun c5 => ?_) (fun c5 => ?_)
        · have h := sy_t c5 h
          obtain ⟨x6, hx6, h⟩ := sy_b_e h
          refine lv_iinc (v := x6) (lv' := [(2, .int x6), (0, .ref (sy_ad E k)), (1, .int y1)]) hx hb dX10_isTrickedBySome_18 hl (k := 2) rfl (by rw [hx6]; rfl) (by decide) rfl (fun ls hl => ?_)
          refine lv_goto (tgt := 2) hx hb dX10_isTrickedBySome_21 (by decide) ?_
          exact ih2 y1 x6 S2 _ _ _ X (lv_sub hl [1, 2, 0] rfl) h
        · have h := sy_f c5 h
          refine lv_iconst (v := 1) hx hb dX10_isTrickedBySome_16 (by decide) ?_
          exact sy_zret fx X hr hlk (Or.inr rfl) h dX10_isTrickedBySome_17
  unfold m_Sky_isTrickedBySome at h
  refine lv_iconst (v := 0) hx hb dX10_isTrickedBySome_0 (by decide) ?_
  refine lv_istore_n (lv' := [(2, .int 0), (0, .ref (sy_ad E k)), (1, .int p0)]) hx hb dX10_isTrickedBySome_1 rfl hl (by decide) rfl (fun ls hl => ?_)
  exact L_2 sy_F p0 0 S _ _ _ X (lv_sub hl [1, 2, 0] rfl) h
def m_Sky_isFatherHolding (k : Nat) (p0 : Int32) (S : sy_St) : sy_R := sy_c (m_Edge_isSon 1 p0 (S k 9) S) fun r2 S1 => if r2 = 0 then (sy_c (m_Edge_isSon 1 p0 (S1 k 10) S1) fun r6 S5 => if r6 = 0 then (some (0, S5)) else (some (1, S5))) else (some (1, S1))
theorem cv_Sky_isFatherHolding : sy_cV RX10 yX10_isFatherHolding cX10_isFatherHolding 2 (some .boolean) 1 := ⟨wm_589, wm_590, wm_17, wm_591, by decide +kernel⟩
set_option maxRecDepth 100000 in
set_option maxHeartbeats 40000000 in
theorem c_Sky_isFatherHolding (l : Launch) {E : sy_ET} {k : Nat} (ht : sy_OSky E k) {p0 : Int32} {S S' : sy_St} {r : Int32} (h : m_Sky_isFatherHolding k p0 S = some (r, S')) : sy_MI l yX10_isFatherHolding cX10_isFatherHolding 2 (some .boolean) 2 43 [.ref (sy_ad E k), .int p0] E S r S' := by
  refine sy_MI_of RX10 pn_10 rfl (Nat.le_of_ble_eq_true rfl) (fun p e s m args below meth c A ls fx hr hlk hA X hl => ?_)
  have hx := fx.1
  have hb := fx.2.1
  have hown := fx.2.2.2.1
  have hts := fx.2.2.2.2
  have hl : lv_has ls 2 [(0, .ref (sy_ad E k)), (1, .int p0)] := hl
  unfold m_Sky_isFatherHolding at h
  refine lv_aload_n hx hb dX10_isFatherHolding_0 rfl (lv_at hl 0 rfl) ?_
  refine sy_q9 fx X (sy_OSky_o ht) 0 (by decide) wm_90 (fun _ h9 => h9) rfl (sy_OSky_r0 ht) dX10_isFatherHolding_1 ?_
  refine lv_iload_n hx hb dX10_isFatherHolding_4 rfl (lv_at hl 1 rfl) ?_
  refine lv_aload_n hx hb dX10_isFatherHolding_5 rfl (lv_at hl 0 rfl) ?_
  refine sy_g9 fx X (sy_OSky_o ht) 9 (by decide) wm_101 (fun _ h9 => h9) rfl dX10_isFatherHolding_6 ?_
  obtain ⟨r2, S1, hc3, h⟩ := sy_c_e h
  refine sy_vi (rest := []) fx hA X hl.1 (sy_OEdge_o (sy_OSky_a0 ht)) (sy_en3 (sy_OEdge_o (sy_OSky_a0 ht)).2) rfl (c_Edge_isSon l (sy_OSky_a0 ht) hc3) cv_Edge_isSon wm_592 ⟨Nat.le_of_ble_eq_true rfl, Nat.le_of_ble_eq_true rfl, Nat.le_refl _, Nat.le_refl _⟩ rfl rfl (Nat.le_of_ble_eq_true rfl) dX10_isFatherHolding_9 (fun H locs X => ?_)
  refine lv_if_ne (tgt := 30) hx hb dX10_isFatherHolding_12 (by decide) (fun c4 => ?_) (fun c4 => ?_)
  · have h := sy_f c4 h
    refine lv_iconst (v := 1) hx hb dX10_isFatherHolding_30 (by decide) ?_
    refine lv_goto (tgt := 35) hx hb dX10_isFatherHolding_31 (by decide) ?_
    exact sy_zret fx X hr hlk (Or.inr rfl) h dX10_isFatherHolding_35
  · have h := sy_t c4 h
    refine lv_aload_n hx hb dX10_isFatherHolding_15 rfl (lv_at hl 0 rfl) ?_
    refine sy_q9 fx X (sy_OSky_o ht) 0 (by decide) wm_90 (fun _ h9 => h9) rfl (sy_OSky_r0 ht) dX10_isFatherHolding_16 ?_
    refine lv_iload_n hx hb dX10_isFatherHolding_19 rfl (lv_at hl 1 rfl) ?_
    refine lv_aload_n hx hb dX10_isFatherHolding_20 rfl (lv_at hl 0 rfl) ?_
    refine sy_g9 fx X (sy_OSky_o ht) 10 (by decide) wm_102 (fun _ h9 => h9) rfl dX10_isFatherHolding_21 ?_
    obtain ⟨r6, S5, hc7, h⟩ := sy_c_e h
    refine sy_vi (rest := []) fx hA X hl.1 (sy_OEdge_o (sy_OSky_a0 ht)) (sy_en3 (sy_OEdge_o (sy_OSky_a0 ht)).2) rfl (c_Edge_isSon l (sy_OSky_a0 ht) hc7) cv_Edge_isSon wm_592 ⟨Nat.le_of_ble_eq_true rfl, Nat.le_of_ble_eq_true rfl, Nat.le_refl _, Nat.le_refl _⟩ rfl rfl (Nat.le_of_ble_eq_true rfl) dX10_isFatherHolding_24 (fun H locs X => ?_)
    refine lv_if_eq (tgt := 34) hx hb dX10_isFatherHolding_27 (by decide) (fun c8 => ?_) (fun c8 => ?_)
    · have h := sy_t c8 h
      refine lv_iconst (v := 0) hx hb dX10_isFatherHolding_34 (by decide) ?_
      exact sy_zret fx X hr hlk (Or.inl rfl) h dX10_isFatherHolding_35
    · have h := sy_f c8 h
      refine lv_iconst (v := 1) hx hb dX10_isFatherHolding_30 (by decide) ?_
      refine lv_goto (tgt := 35) hx hb dX10_isFatherHolding_31 (by decide) ?_
      exact sy_zret fx X hr hlk (Or.inr rfl) h dX10_isFatherHolding_35
def m_Chain_nextOf_B4 (kk4 : Int32 → Int32 → Int32 → sy_St → sy_R) (y1 : Int32) (y2 : Int32) (y3 : Int32) (S : sy_St) : sy_R := if (S 1 8) ≤ y3 then (some (y2, S)) else (sy_g (sy_in y3 6) <| if (S 382 y3.toNatClampNeg) = (-1) then (sy_b (y3 + 1 : Int32) fun x4 => kk4 y1 y2 x4 S) else (sy_c (m_Chain_isStep y1 y3 S) fun r6 S5 => if r6 = 0 then (sy_b (y3 + 1 : Int32) fun x16 => kk4 y1 y2 x16 S5) else (if y2 = (-1) then (sy_b (y3 + 1 : Int32) fun x10 => kk4 y1 y3 x10 S5) else (sy_g (sy_in y3 6) <| sy_g (sy_in y2 6) <| if (S5 382 y2.toNatClampNeg) ≤ (S5 382 y3.toNatClampNeg) then (sy_b (y3 + 1 : Int32) fun x14 => kk4 y1 y2 x14 S5) else (sy_b (y3 + 1 : Int32) fun x15 => kk4 y1 y3 x15 S5)))))
def m_Chain_nextOf (p0 : Int32) (S : sy_St) : sy_R := sy_fix (fun _ _ _ _ => none) (m_Chain_nextOf_B4) sy_F p0 (-1) 0 S
theorem cv_Chain_nextOf : sy_cV RX1 yX1_nextOf cX1_nextOf 4 (some .int) 1 := ⟨wm_825, wm_826, wm_44, wm_827, by decide +kernel⟩
set_option maxRecDepth 100000 in
set_option maxHeartbeats 40000000 in
theorem c_Chain_nextOf (l : Launch) {E : sy_ET} (ht : sy_OChain E) {p0 : Int32} {S S' : sy_St} {r : Int32} (h : m_Chain_nextOf p0 S = some (r, S')) : sy_MI l yX1_nextOf cX1_nextOf 4 (some .int) 3 65 [.ref (sy_ad E 379), .int p0] E S r S' := by
  refine sy_MI_of RX1 pn_1 rfl (Nat.le_of_ble_eq_true rfl) (fun p e s m args below meth c A ls fx hr hlk hA X hl => ?_)
  have hx := fx.1
  have hb := fx.2.1
  have hown := fx.2.2.2.1
  have hts := fx.2.2.2.2
  have hl : lv_has ls 4 [(0, .ref (sy_ad E 379)), (1, .int p0)] := hl
  have L_4 : ∀ (n4 : Nat) (y1 y2 y3 : Int32) (S : sy_St) (H : Heap) (locs : List Loc) (ls : Array Slot), sy_Wd E A s S H locs → lv_has ls 4 [(0, .ref (sy_ad E 379)), (1, .int y1), (2, .int y2), (3, .int y3)] → sy_fix (fun _ _ _ _ => none) (m_Chain_nextOf_B4) n4 y1 y2 y3 S = some (r, S') → W p l e (sy_rm 3 65) s m args below meth c H locs 0 0 (MQ below (sy_Qi E A r S') args s 0 0 A) (F0 m 4 ls []) := by
    intro n4
    induction n4 with
    | zero => intro y1 y2 y3 S H locs ls X hl h; have h9 : (none : sy_R) = some (r, S') := h; cases h9
    | succ n4 ih4 =>
      intro y1 y2 y3 S H locs ls X hl h
      have h : m_Chain_nextOf_B4 (sy_fix (fun _ _ _ _ => none) (m_Chain_nextOf_B4) n4) y1 y2 y3 S = some (r, S') := h
      unfold m_Chain_nextOf_B4 at h
      refine lv_iload_n hx hb dX1_nextOf_4 rfl (lv_at hl 3 rfl) ?_
      refine lv_aload_n hx hb dX1_nextOf_5 rfl (lv_at hl 0 rfl) ?_
      refine sy_q1 fx X (sy_OChain_o ht) 0 (by decide) wm_145 (fun _ h9 => h9) rfl (sy_OChain_r0 ht) dX1_nextOf_6 ?_
      refine sy_g3 fx X (sy_OEdge_o (sy_OChain_a0 ht)) 8 (by decide) wm_804 (fun _ h9 => h9) rfl dX1_nextOf_9 ?_
      refine lv_icmp_ge (tgt := 65) hx hb dX1_nextOf_12 (by decide) (fun c1 => ?_) (fun c1 => ?_)
      · have h := sy_t c1 h
        refine lv_iload_n hx hb dX1_nextOf_65 rfl (lv_at hl 2 rfl) ?_
        exact sy_iret fx X hr hlk h dX1_nextOf_66
      · have h := sy_f c1 h
        refine lv_aload_n hx hb dX1_nextOf_15 rfl (lv_at hl 0 rfl) ?_
        refine sy_q1 fx X (sy_OChain_o ht) 3 (by decide) wm_143 (fun _ h9 => h9) rfl (sy_OChain_r3 ht) dX1_nextOf_16 ?_
        refine lv_iload_n hx hb dX1_nextOf_19 rfl (lv_at hl 3 rfl) ?_
        obtain ⟨g2, h⟩ := sy_g_e h
        refine sy_iald fx X (sy_OChain_a3 ht) g2 dX1_nextOf_20 ?_
        refine lv_iconst (v := (-1)) hx hb dX1_nextOf_21 (by decide) ?_
        refine lv_icmp_eq (tgt := 59) hx hb dX1_nextOf_22 (by decide) (fun c3 => ?_) (fun c3 => ?_)
        · have h := sy_t c3 h
          obtain ⟨x4, hx4, h⟩ := sy_b_e h
          refine lv_iinc (v := x4) (lv' := [(3, .int x4), (0, .ref (sy_ad E 379)), (1, .int y1), (2, .int y2)]) hx hb dX1_nextOf_59 hl (k := 3) rfl (by rw [hx4]; rfl) (by decide) rfl (fun ls hl => ?_)
          refine lv_goto (tgt := 4) hx hb dX1_nextOf_62 (by decide) ?_
          exact ih4 y1 y2 x4 S _ _ _ X (lv_sub hl [1, 2, 3, 0] rfl) h
        · have h := sy_f c3 h
          refine lv_aload_n hx hb dX1_nextOf_25 rfl (lv_at hl 0 rfl) ?_
          refine lv_iload_n hx hb dX1_nextOf_26 rfl (lv_at hl 1 rfl) ?_
          refine lv_iload_n hx hb dX1_nextOf_27 rfl (lv_at hl 3 rfl) ?_
          obtain ⟨r6, S5, hc7, h⟩ := sy_c_e h
          refine sy_vi (rest := []) fx hA X hl.1 (sy_OChain_o ht) (sy_en1 (sy_OChain_o ht).2) rfl (c_Chain_isStep l ht hc7) cv_Chain_isStep wm_819 ⟨Nat.le_of_ble_eq_true rfl, Nat.le_of_ble_eq_true rfl, Nat.le_refl _, Nat.le_refl _⟩ rfl rfl (Nat.le_of_ble_eq_true rfl) dX1_nextOf_28 (fun H locs X => ?_)
          refine lv_if_ne (tgt := 37) hx hb dX1_nextOf_31 (by decide) (fun c8 => ?_) (fun c8 => ?_)
          · have h := sy_f c8 h
            refine lv_iload_n hx hb dX1_nextOf_37 rfl (lv_at hl 2 rfl) ?_
            refine lv_iconst (v := (-1)) hx hb dX1_nextOf_38 (by decide) ?_
            refine lv_icmp_eq (tgt := 57) hx hb dX1_nextOf_39 (by decide) (fun c9 => ?_) (fun c9 => ?_)
            · have h := sy_t c9 h
              refine lv_iload_n hx hb dX1_nextOf_57 rfl (lv_at hl 3 rfl) ?_
              refine lv_istore_n (lv' := [(2, .int y3), (0, .ref (sy_ad E 379)), (1, .int y1), (3, .int y3)]) hx hb dX1_nextOf_58 rfl hl (by decide) rfl (fun ls hl => ?_)
              obtain ⟨x10, hx10, h⟩ := sy_b_e h
              refine lv_iinc (v := x10) (lv' := [(3, .int x10), (2, .int y3), (0, .ref (sy_ad E 379)), (1, .int y1)]) hx hb dX1_nextOf_59 hl (k := 3) rfl (by rw [hx10]; rfl) (by decide) rfl (fun ls hl => ?_)
              refine lv_goto (tgt := 4) hx hb dX1_nextOf_62 (by decide) ?_
              exact ih4 y1 y3 x10 S5 _ _ _ X (lv_sub hl [2, 3, 1, 0] rfl) h
            · have h := sy_f c9 h
              refine lv_aload_n hx hb dX1_nextOf_42 rfl (lv_at hl 0 rfl) ?_
              refine sy_q1 fx X (sy_OChain_o ht) 3 (by decide) wm_143 (fun _ h9 => h9) rfl (sy_OChain_r3 ht) dX1_nextOf_43 ?_
              refine lv_iload_n hx hb dX1_nextOf_46 rfl (lv_at hl 3 rfl) ?_
              obtain ⟨g11, h⟩ := sy_g_e h
              refine sy_iald fx X (sy_OChain_a3 ht) g11 dX1_nextOf_47 ?_
              refine lv_aload_n hx hb dX1_nextOf_48 rfl (lv_at hl 0 rfl) ?_
              refine sy_q1 fx X (sy_OChain_o ht) 3 (by decide) wm_143 (fun _ h9 => h9) rfl (sy_OChain_r3 ht) dX1_nextOf_49 ?_
              refine lv_iload_n hx hb dX1_nextOf_52 rfl (lv_at hl 2 rfl) ?_
              obtain ⟨g12, h⟩ := sy_g_e h
              refine sy_iald fx X (sy_OChain_a3 ht) g12 dX1_nextOf_53 ?_
              refine lv_icmp_ge (tgt := 59) hx hb dX1_nextOf_54 (by decide) (fun c13 => ?_) (fun c13 => ?_)
              · have h := sy_t c13 h
                obtain ⟨x14, hx14, h⟩ := sy_b_e h
                refine lv_iinc (v := x14) (lv' := [(3, .int x14), (0, .ref (sy_ad E 379)), (1, .int y1), (2, .int y2)]) hx hb dX1_nextOf_59 hl (k := 3) rfl (by rw [hx14]; rfl) (by decide) rfl (fun ls hl => ?_)
                refine lv_goto (tgt := 4) hx hb dX1_nextOf_62 (by decide) ?_
                exact ih4 y1 y2 x14 S5 _ _ _ X (lv_sub hl [1, 2, 3, 0] rfl) h
              · have h := sy_f c13 h
                refine lv_iload_n hx hb dX1_nextOf_57 rfl (lv_at hl 3 rfl) ?_
                refine lv_istore_n (lv' := [(2, .int y3), (0, .ref (sy_ad E 379)), (1, .int y1), (3, .int y3)]) hx hb dX1_nextOf_58 rfl hl (by decide) rfl (fun ls hl => ?_)
                obtain ⟨x15, hx15, h⟩ := sy_b_e h
                refine lv_iinc (v := x15) (lv' := [(3, .int x15), (2, .int y3), (0, .ref (sy_ad E 379)), (1, .int y1)]) hx hb dX1_nextOf_59 hl (k := 3) rfl (by rw [hx15]; rfl) (by decide) rfl (fun ls hl => ?_)
                refine lv_goto (tgt := 4) hx hb dX1_nextOf_62 (by decide) ?_
                exact ih4 y1 y3 x15 S5 _ _ _ X (lv_sub hl [2, 3, 1, 0] rfl) h
          · have h := sy_t c8 h
            refine lv_goto (tgt := 59) hx hb dX1_nextOf_34 (by decide) ?_
            obtain ⟨x16, hx16, h⟩ := sy_b_e h
            refine lv_iinc (v := x16) (lv' := [(3, .int x16), (0, .ref (sy_ad E 379)), (1, .int y1), (2, .int y2)]) hx hb dX1_nextOf_59 hl (k := 3) rfl (by rw [hx16]; rfl) (by decide) rfl (fun ls hl => ?_)
            refine lv_goto (tgt := 4) hx hb dX1_nextOf_62 (by decide) ?_
            exact ih4 y1 y2 x16 S5 _ _ _ X (lv_sub hl [1, 2, 3, 0] rfl) h
  unfold m_Chain_nextOf at h
  refine lv_iconst (v := (-1)) hx hb dX1_nextOf_0 (by decide) ?_
  refine lv_istore_n (lv' := [(2, .int (-1)), (0, .ref (sy_ad E 379)), (1, .int p0)]) hx hb dX1_nextOf_1 rfl hl (by decide) rfl (fun ls hl => ?_)
  refine lv_iconst (v := 0) hx hb dX1_nextOf_2 (by decide) ?_
  refine lv_istore_n (lv' := [(3, .int 0), (2, .int (-1)), (0, .ref (sy_ad E 379)), (1, .int p0)]) hx hb dX1_nextOf_3 rfl hl (by decide) rfl (fun ls hl => ?_)
  exact L_4 sy_F p0 (-1) 0 S _ _ _ X (lv_sub hl [2, 3, 1, 0] rfl) h
def m_Chain_find_B123 (k0 : Nat) (kk123 : Int32 → Int32 → sy_St → sy_R) (y3 : Int32) (y4 : Int32) (S : sy_St) : sy_R := if (S 379 5) ≤ y4 then (some (0, S)) else (if 6 ≤ y4 then (some (0, S)) else (if y3 = (-1) then (some (0, S)) else (sy_g (sy_in y4 6) <| sy_b (sy_up S 383 y4.toNatClampNeg y3) fun S50 => sy_c (m_Chain_nextOf y3 S50) fun r52 S51 => sy_b (y4 + 1 : Int32) fun x54 => kk123 r52 x54 S51)))
def m_Chain_find_B27 (k0 : Nat) (kk27 : Int32 → Int32 → sy_St → sy_R) (y2 : Int32) (y3 : Int32) (S : sy_St) : sy_R := if (S 1 8) ≤ y3 then (sy_c (m_Chain_countSteps y2 S) fun r11 S10 => sy_c (m_Chain_nextOf (-1) S10) fun r14 S13 => if r14 = (-1) then (some (0, S13)) else (sy_g (sy_in r14 6) <| sy_b (sy_up S13 379 5 ((S13 382 r14.toNatClampNeg) + 1)) fun S18 => sy_fix (fun _ _ _ => none) (m_Chain_find_B123 k0) sy_F r14 0 S18)) else (sy_c (m_Sky_isTrickedBySome k0 y3 S) fun r20 S19 => sy_g (sy_in y3 6) <| sy_b (sy_up S19 380 y3.toNatClampNeg (vp_nar .boolean r20)) fun S23 => sy_c (m_Sky_isHolding k0 y3 S23) fun r25 S24 => if r25 = 0 then (sy_g (sy_in y3 6) <| if (S24 380 y3.toNatClampNeg) = 0 then (sy_c (m_Sky_isFatherHolding k0 y3 S24) fun r37 S36 => if r37 = 0 then (sy_g (sy_in y3 6) <| sy_b (sy_up S36 381 y3.toNatClampNeg (vp_nar .boolean 0)) fun S41 => sy_b (y3 + 1 : Int32) fun x42 => kk27 y2 x42 S41) else (sy_g (sy_in y3 6) <| sy_b (sy_up S36 381 y3.toNatClampNeg (vp_nar .boolean 1)) fun S44 => sy_b (y3 + 1 : Int32) fun x45 => kk27 y2 x45 S44)) else (sy_g (sy_in y3 6) <| sy_b (sy_up S24 381 y3.toNatClampNeg (vp_nar .boolean 1)) fun S34 => sy_b (y3 + 1 : Int32) fun x35 => kk27 y2 x35 S34)) else (sy_g (sy_in y3 6) <| sy_b (sy_up S24 381 y3.toNatClampNeg (vp_nar .boolean 0)) fun S29 => sy_b (y3 + 1 : Int32) fun x30 => kk27 y2 x30 S29))
def m_Chain_find (k0 : Nat) (p1 : Int32) (S : sy_St) : sy_R := sy_c (m_Sky_isHolding k0 p1 S) fun r2 S1 => if r2 = 0 then (sy_b (sy_up S1 379 5 (-1)) fun S5 => if (S5 379 5) = 0 then (some (0, S5)) else (sy_fix (fun _ _ _ => none) (m_Chain_find_B27 k0) sy_F p1 0 S5)) else (sy_b (sy_up S1 379 5 0) fun S7 => if (S7 379 5) = 0 then (some (0, S7)) else (sy_fix (fun _ _ _ => none) (m_Chain_find_B27 k0) sy_F p1 0 S7))
theorem cv_Chain_find : sy_cV RX1 yX1_find cX1_find 5 none 2 := ⟨wm_800, wm_801, wm_44, wm_802, by decide +kernel⟩
set_option maxRecDepth 100000 in
set_option maxHeartbeats 40000000 in
theorem c_Chain_find (l : Launch) {E : sy_ET} {k0 : Nat} (ht : sy_OChain E) (h0 : sy_OSky E k0) {p1 : Int32} {S S' : sy_St} {r : Int32} (h : m_Chain_find k0 p1 S = some (r, S')) : sy_MV l yX1_find cX1_find 5 5 111 [.ref (sy_ad E 379), .ref (sy_ad E k0), .int p1] E S S' := by
  refine sy_MV_of RX1 pn_1 rfl (Nat.le_of_ble_eq_true rfl) (fun p e s m args below meth c A ls fx hr hlk hA X hl => ?_)
  have hx := fx.1
  have hb := fx.2.1
  have hown := fx.2.2.2.1
  have hts := fx.2.2.2.2
  have hl : lv_has ls 5 [(0, .ref (sy_ad E 379)), (1, .ref (sy_ad E k0)), (2, .int p1)] := hl
  have L_123 : ∀ (n123 : Nat) (y3 y4 : Int32) (S : sy_St) (H : Heap) (locs : List Loc) (ls : Array Slot), sy_Wd E A s S H locs → lv_has ls 5 [(0, .ref (sy_ad E 379)), (3, .int y3), (4, .int y4)] → sy_fix (fun _ _ _ => none) (m_Chain_find_B123 k0) n123 y3 y4 S = some (r, S') → W p l e (sy_rm 5 111) s m args below meth c H locs 0 0 (MQ below (sy_Qv E A S') args s 0 0 A) (F0 m 123 ls []) := by
    intro n123
    induction n123 with
    | zero => intro y3 y4 S H locs ls X hl h; have h9 : (none : sy_R) = some (r, S') := h; cases h9
    | succ n123 ih123 =>
      intro y3 y4 S H locs ls X hl h
      have h : m_Chain_find_B123 k0 (sy_fix (fun _ _ _ => none) (m_Chain_find_B123 k0) n123) y3 y4 S = some (r, S') := h
      unfold m_Chain_find_B123 at h
      refine lv_iload hx hb dX1_find_123 (lv_at hl 2 rfl) ?_
      refine lv_aload_n hx hb dX1_find_125 rfl (lv_at hl 0 rfl) ?_
      refine sy_g1 fx X (sy_OChain_o ht) 5 (by decide) wm_803 (fun _ h9 => h9) rfl dX1_find_126 ?_
      refine lv_icmp_ge (tgt := 164) hx hb dX1_find_129 (by decide) (fun c46 => ?_) (fun c46 => ?_)
      · have h := sy_t c46 h
        exact sy_vret fx X hr hlk h dX1_find_164
      · have h := sy_f c46 h
        refine lv_iload hx hb dX1_find_132 (lv_at hl 2 rfl) ?_
        refine lv_bipush (v := 6) hx hb dX1_find_134 (by decide) ?_
        refine lv_icmp_ge (tgt := 164) hx hb dX1_find_136 (by decide) (fun c47 => ?_) (fun c47 => ?_)
        · have h := sy_t c47 h
          exact sy_vret fx X hr hlk h dX1_find_164
        · have h := sy_f c47 h
          refine lv_iload_n hx hb dX1_find_139 rfl (lv_at hl 1 rfl) ?_
          refine lv_iconst (v := (-1)) hx hb dX1_find_140 (by decide) ?_
          refine lv_icmp_eq (tgt := 164) hx hb dX1_find_141 (by decide) (fun c48 => ?_) (fun c48 => ?_)
          · have h := sy_t c48 h
            exact sy_vret fx X hr hlk h dX1_find_164
          · have h := sy_f c48 h
            refine lv_aload_n hx hb dX1_find_144 rfl (lv_at hl 0 rfl) ?_
            refine sy_q1 fx X (sy_OChain_o ht) 4 (by decide) wm_144 (fun _ h9 => h9) rfl (sy_OChain_r4 ht) dX1_find_145 ?_
            refine lv_iload hx hb dX1_find_148 (lv_at hl 2 rfl) ?_
            refine lv_iload_n hx hb dX1_find_150 rfl (lv_at hl 1 rfl) ?_
            obtain ⟨g49, h⟩ := sy_g_e h
            obtain ⟨S50, hS50, h⟩ := sy_b_e h
            refine sy_iast fx X (sy_OChain_a4 ht) g49 hS50 dX1_find_151 (fun H locs X => ?_)
            refine lv_aload_n hx hb dX1_find_152 rfl (lv_at hl 0 rfl) ?_
            refine lv_iload_n hx hb dX1_find_153 rfl (lv_at hl 1 rfl) ?_
            obtain ⟨r52, S51, hc53, h⟩ := sy_c_e h
            refine sy_vi (rest := []) fx hA X hl.1 (sy_OChain_o ht) (sy_en1 (sy_OChain_o ht).2) rfl (c_Chain_nextOf l ht hc53) cv_Chain_nextOf wm_824 ⟨Nat.le_of_ble_eq_true rfl, Nat.le_of_ble_eq_true rfl, Nat.le_refl _, Nat.le_refl _⟩ rfl rfl (Nat.le_of_ble_eq_true rfl) dX1_find_154 (fun H locs X => ?_)
            refine lv_istore_n (lv' := [(3, .int r52), (0, .ref (sy_ad E 379)), (4, .int y4)]) hx hb dX1_find_157 rfl hl (by decide) rfl (fun ls hl => ?_)
            obtain ⟨x54, hx54, h⟩ := sy_b_e h
            refine lv_iinc (v := x54) (lv' := [(4, .int x54), (3, .int r52), (0, .ref (sy_ad E 379))]) hx hb dX1_find_158 hl (k := 2) rfl (by rw [hx54]; rfl) (by decide) rfl (fun ls hl => ?_)
            refine lv_goto (tgt := 123) hx hb dX1_find_161 (by decide) ?_
            exact ih123 r52 x54 S51 _ _ _ X (lv_sub hl [2, 1, 0] rfl) h
  have L_27 : ∀ (n27 : Nat) (y2 y3 : Int32) (S : sy_St) (H : Heap) (locs : List Loc) (ls : Array Slot), sy_Wd E A s S H locs → lv_has ls 5 [(0, .ref (sy_ad E 379)), (1, .ref (sy_ad E k0)), (2, .int y2), (3, .int y3)] → sy_fix (fun _ _ _ => none) (m_Chain_find_B27 k0) n27 y2 y3 S = some (r, S') → W p l e (sy_rm 5 111) s m args below meth c H locs 0 0 (MQ below (sy_Qv E A S') args s 0 0 A) (F0 m 27 ls []) := by
    intro n27
    induction n27 with
    | zero => intro y2 y3 S H locs ls X hl h; have h9 : (none : sy_R) = some (r, S') := h; cases h9
    | succ n27 ih27 =>
      intro y2 y3 S H locs ls X hl h
      have h : m_Chain_find_B27 k0 (sy_fix (fun _ _ _ => none) (m_Chain_find_B27 k0) n27) y2 y3 S = some (r, S') := h
      unfold m_Chain_find_B27 at h
      refine lv_iload_n hx hb dX1_find_27 rfl (lv_at hl 3 rfl) ?_
      refine lv_aload_n hx hb dX1_find_28 rfl (lv_at hl 0 rfl) ?_
      refine sy_q1 fx X (sy_OChain_o ht) 0 (by decide) wm_145 (fun _ h9 => h9) rfl (sy_OChain_r0 ht) dX1_find_29 ?_
      refine sy_g3 fx X (sy_OEdge_o (sy_OChain_a0 ht)) 8 (by decide) wm_804 (fun _ h9 => h9) rfl dX1_find_32 ?_
      refine lv_icmp_ge (tgt := 91) hx hb dX1_find_35 (by decide) (fun c9 => ?_) (fun c9 => ?_)
      · have h := sy_t c9 h
        refine lv_aload_n hx hb dX1_find_91 rfl (lv_at hl 0 rfl) ?_
        refine lv_iload_n hx hb dX1_find_92 rfl (lv_at hl 2 rfl) ?_
        obtain ⟨r11, S10, hc12, h⟩ := sy_c_e h
        refine sy_vv (rest := []) fx hA X hl.1 (sy_OChain_o ht) (sy_en1 (sy_OChain_o ht).2) rfl (c_Chain_countSteps l ht hc12) cv_Chain_countSteps wm_811 ⟨Nat.le_of_ble_eq_true rfl, Nat.le_of_ble_eq_true rfl, Nat.le_refl _, Nat.le_refl _⟩ rfl rfl (Nat.le_of_ble_eq_true rfl) dX1_find_93 (fun H locs X => ?_)
        refine lv_aload_n hx hb dX1_find_96 rfl (lv_at hl 0 rfl) ?_
        refine lv_iconst (v := (-1)) hx hb dX1_find_97 (by decide) ?_
        obtain ⟨r14, S13, hc15, h⟩ := sy_c_e h
        refine sy_vi (rest := []) fx hA X hl.1 (sy_OChain_o ht) (sy_en1 (sy_OChain_o ht).2) rfl (c_Chain_nextOf l ht hc15) cv_Chain_nextOf wm_824 ⟨Nat.le_of_ble_eq_true rfl, Nat.le_of_ble_eq_true rfl, Nat.le_refl _, Nat.le_refl _⟩ rfl rfl (Nat.le_of_ble_eq_true rfl) dX1_find_98 (fun H locs X => ?_)
        refine lv_istore_n (lv' := [(3, .int r14), (0, .ref (sy_ad E 379)), (1, .ref (sy_ad E k0)), (2, .int y2)]) hx hb dX1_find_101 rfl hl (by decide) rfl (fun ls hl => ?_)
        refine lv_iload_n hx hb dX1_find_102 rfl (lv_at hl 0 rfl) ?_
        refine lv_iconst (v := (-1)) hx hb dX1_find_103 (by decide) ?_
        refine lv_icmp_ne (tgt := 108) hx hb dX1_find_104 (by decide) (fun c16 => ?_) (fun c16 => ?_)
        · have h := sy_f c16 h
          refine lv_aload_n hx hb dX1_find_108 rfl (lv_at hl 1 rfl) ?_
          refine lv_aload_n hx hb dX1_find_109 rfl (lv_at hl 1 rfl) ?_
          refine sy_q1 fx X (sy_OChain_o ht) 3 (by decide) wm_143 (fun _ h9 => h9) rfl (sy_OChain_r3 ht) dX1_find_110 ?_
          refine lv_iload_n hx hb dX1_find_113 rfl (lv_at hl 0 rfl) ?_
          obtain ⟨g17, h⟩ := sy_g_e h
          refine sy_iald fx X (sy_OChain_a3 ht) g17 dX1_find_114 ?_
          refine lv_iconst (v := 1) hx hb dX1_find_115 (by decide) ?_
          refine lv_iadd hx hb dX1_find_116 ?_
          obtain ⟨S18, hS18, h⟩ := sy_b_e h
          refine sy_p1 fx X (sy_OChain_o ht) 5 (by decide) wm_803 (fun _ h9 => h9) rfl (ty := .int) (by decide +kernel) rfl rfl hS18 sy_s1_5 dX1_find_117 (fun H locs X => ?_)
          refine lv_iconst (v := 0) hx hb dX1_find_120 (by decide) ?_
          refine lv_istore (lv' := [(4, .int 0), (3, .int r14), (0, .ref (sy_ad E 379)), (1, .ref (sy_ad E k0)), (2, .int y2)]) hx hb dX1_find_121 hl (by decide) rfl (fun ls hl => ?_)
          exact L_123 sy_F r14 0 S18 _ _ _ X (lv_sub hl [2, 1, 0] rfl) h
        · have h := sy_t c16 h
          exact sy_vret fx X hr hlk h dX1_find_107
      · have h := sy_f c9 h
        refine lv_aload_n hx hb dX1_find_38 rfl (lv_at hl 0 rfl) ?_
        refine sy_q1 fx X (sy_OChain_o ht) 1 (by decide) wm_141 (fun _ h9 => h9) rfl (sy_OChain_r1 ht) dX1_find_39 ?_
        refine lv_iload_n hx hb dX1_find_42 rfl (lv_at hl 3 rfl) ?_
        refine lv_aload_n hx hb dX1_find_43 rfl (lv_at hl 1 rfl) ?_
        refine lv_iload_n hx hb dX1_find_44 rfl (lv_at hl 3 rfl) ?_
        obtain ⟨r20, S19, hc21, h⟩ := sy_c_e h
        refine sy_vi (rest := [.int y3, .ref (sy_ad E 380)]) fx hA X hl.1 (sy_OSky_o h0) (sy_en9 (sy_OSky_o h0).2) rfl (c_Sky_isTrickedBySome l h0 hc21) cv_Sky_isTrickedBySome wm_806 ⟨Nat.le_of_ble_eq_true rfl, Nat.le_of_ble_eq_true rfl, Nat.le_refl _, Nat.le_refl _⟩ rfl rfl (Nat.le_of_ble_eq_true rfl) dX1_find_45 (fun H locs X => ?_)
        obtain ⟨g22, h⟩ := sy_g_e h
        obtain ⟨S23, hS23, h⟩ := sy_b_e h
        refine sy_zast fx X (sy_OChain_a1 ht) g22 hS23 dX1_find_48 (fun H locs X => ?_)
        refine lv_aload_n hx hb dX1_find_49 rfl (lv_at hl 0 rfl) ?_
        refine sy_q1 fx X (sy_OChain_o ht) 2 (by decide) wm_142 (fun _ h9 => h9) rfl (sy_OChain_r2 ht) dX1_find_50 ?_
        refine lv_iload_n hx hb dX1_find_53 rfl (lv_at hl 3 rfl) ?_
        refine lv_aload_n hx hb dX1_find_54 rfl (lv_at hl 1 rfl) ?_
        refine lv_iload_n hx hb dX1_find_55 rfl (lv_at hl 3 rfl) ?_
        obtain ⟨r25, S24, hc26, h⟩ := sy_c_e h
        refine sy_vi (rest := [.int y3, .ref (sy_ad E 381)]) fx hA X hl.1 (sy_OSky_o h0) (sy_en9 (sy_OSky_o h0).2) rfl (c_Sky_isHolding l h0 hc26) cv_Sky_isHolding wm_805 ⟨Nat.le_of_ble_eq_true rfl, Nat.le_of_ble_eq_true rfl, Nat.le_refl _, Nat.le_refl _⟩ rfl rfl (Nat.le_of_ble_eq_true rfl) dX1_find_56 (fun H locs X => ?_)
        refine lv_if_ne (tgt := 83) hx hb dX1_find_59 (by decide) (fun c27 => ?_) (fun c27 => ?_)
        · have h := sy_f c27 h
          refine lv_iconst (v := 0) hx hb dX1_find_83 (by decide) ?_
          obtain ⟨g28, h⟩ := sy_g_e h
          obtain ⟨S29, hS29, h⟩ := sy_b_e h
          refine sy_zast fx X (sy_OChain_a2 ht) g28 hS29 dX1_find_84 (fun H locs X => ?_)
          obtain ⟨x30, hx30, h⟩ := sy_b_e h
          refine lv_iinc (v := x30) (lv' := [(3, .int x30), (0, .ref (sy_ad E 379)), (1, .ref (sy_ad E k0)), (2, .int y2)]) hx hb dX1_find_85 hl (k := 3) rfl (by rw [hx30]; rfl) (by decide) rfl (fun ls hl => ?_)
          refine lv_goto (tgt := 27) hx hb dX1_find_88 (by decide) ?_
          exact ih27 y2 x30 S29 _ _ _ X (lv_sub hl [1, 2, 3, 0] rfl) h
        · have h := sy_t c27 h
          refine lv_aload_n hx hb dX1_find_62 rfl (lv_at hl 0 rfl) ?_
          refine sy_q1 fx X (sy_OChain_o ht) 1 (by decide) wm_141 (fun _ h9 => h9) rfl (sy_OChain_r1 ht) dX1_find_63 ?_
          refine lv_iload_n hx hb dX1_find_66 rfl (lv_at hl 3 rfl) ?_
          obtain ⟨g31, h⟩ := sy_g_e h
          refine sy_zald fx X (sy_OChain_a1 ht) g31 dX1_find_67 ?_
          refine lv_if_ne (tgt := 79) hx hb dX1_find_68 (by decide) (fun c32 => ?_) (fun c32 => ?_)
          · have h := sy_f c32 h
            refine lv_iconst (v := 1) hx hb dX1_find_79 (by decide) ?_
            refine lv_goto (tgt := 84) hx hb dX1_find_80 (by decide) ?_
            obtain ⟨g33, h⟩ := sy_g_e h
            obtain ⟨S34, hS34, h⟩ := sy_b_e h
            refine sy_zast fx X (sy_OChain_a2 ht) g33 hS34 dX1_find_84 (fun H locs X => ?_)
            obtain ⟨x35, hx35, h⟩ := sy_b_e h
            refine lv_iinc (v := x35) (lv' := [(3, .int x35), (0, .ref (sy_ad E 379)), (1, .ref (sy_ad E k0)), (2, .int y2)]) hx hb dX1_find_85 hl (k := 3) rfl (by rw [hx35]; rfl) (by decide) rfl (fun ls hl => ?_)
            refine lv_goto (tgt := 27) hx hb dX1_find_88 (by decide) ?_
            exact ih27 y2 x35 S34 _ _ _ X (lv_sub hl [1, 2, 3, 0] rfl) h
          · have h := sy_t c32 h
            refine lv_aload_n hx hb dX1_find_71 rfl (lv_at hl 1 rfl) ?_
            refine lv_iload_n hx hb dX1_find_72 rfl (lv_at hl 3 rfl) ?_
            obtain ⟨r37, S36, hc38, h⟩ := sy_c_e h
            refine sy_vi (rest := [.int y3, .ref (sy_ad E 381)]) fx hA X hl.1 (sy_OSky_o h0) (sy_en9 (sy_OSky_o h0).2) rfl (c_Sky_isFatherHolding l h0 hc38) cv_Sky_isFatherHolding wm_810 ⟨Nat.le_of_ble_eq_true rfl, Nat.le_of_ble_eq_true rfl, Nat.le_refl _, Nat.le_refl _⟩ rfl rfl (Nat.le_of_ble_eq_true rfl) dX1_find_73 (fun H locs X => ?_)
            refine lv_if_eq (tgt := 83) hx hb dX1_find_76 (by decide) (fun c39 => ?_) (fun c39 => ?_)
            · have h := sy_t c39 h
              refine lv_iconst (v := 0) hx hb dX1_find_83 (by decide) ?_
              obtain ⟨g40, h⟩ := sy_g_e h
              obtain ⟨S41, hS41, h⟩ := sy_b_e h
              refine sy_zast fx X (sy_OChain_a2 ht) g40 hS41 dX1_find_84 (fun H locs X => ?_)
              obtain ⟨x42, hx42, h⟩ := sy_b_e h
              refine lv_iinc (v := x42) (lv' := [(3, .int x42), (0, .ref (sy_ad E 379)), (1, .ref (sy_ad E k0)), (2, .int y2)]) hx hb dX1_find_85 hl (k := 3) rfl (by rw [hx42]; rfl) (by decide) rfl (fun ls hl => ?_)
              refine lv_goto (tgt := 27) hx hb dX1_find_88 (by decide) ?_
              exact ih27 y2 x42 S41 _ _ _ X (lv_sub hl [1, 2, 3, 0] rfl) h
            · have h := sy_f c39 h
              refine lv_iconst (v := 1) hx hb dX1_find_79 (by decide) ?_
              refine lv_goto (tgt := 84) hx hb dX1_find_80 (by decide) ?_
              obtain ⟨g43, h⟩ := sy_g_e h
              obtain ⟨S44, hS44, h⟩ := sy_b_e h
              refine sy_zast fx X (sy_OChain_a2 ht) g43 hS44 dX1_find_84 (fun H locs X => ?_)
              obtain ⟨x45, hx45, h⟩ := sy_b_e h
              refine lv_iinc (v := x45) (lv' := [(3, .int x45), (0, .ref (sy_ad E 379)), (1, .ref (sy_ad E k0)), (2, .int y2)]) hx hb dX1_find_85 hl (k := 3) rfl (by rw [hx45]; rfl) (by decide) rfl (fun ls hl => ?_)
              refine lv_goto (tgt := 27) hx hb dX1_find_88 (by decide) ?_
              exact ih27 y2 x45 S44 _ _ _ X (lv_sub hl [1, 2, 3, 0] rfl) h
  unfold m_Chain_find at h
  refine lv_aload_n hx hb dX1_find_0 rfl (lv_at hl 0 rfl) ?_
  refine lv_aload_n hx hb dX1_find_1 rfl (lv_at hl 1 rfl) ?_
  refine lv_iload_n hx hb dX1_find_2 rfl (lv_at hl 2 rfl) ?_
  obtain ⟨r2, S1, hc3, h⟩ := sy_c_e h
  refine sy_vi (rest := [.ref (sy_ad E 379)]) fx hA X hl.1 (sy_OSky_o h0) (sy_en9 (sy_OSky_o h0).2) rfl (c_Sky_isHolding l h0 hc3) cv_Sky_isHolding wm_805 ⟨Nat.le_of_ble_eq_true rfl, Nat.le_of_ble_eq_true rfl, Nat.le_refl _, Nat.le_refl _⟩ rfl rfl (Nat.le_of_ble_eq_true rfl) dX1_find_3 (fun H locs X => ?_)
  refine lv_if_eq (tgt := 13) hx hb dX1_find_6 (by decide) (fun c4 => ?_) (fun c4 => ?_)
  · have h := sy_t c4 h
    refine lv_iconst (v := (-1)) hx hb dX1_find_13 (by decide) ?_
    obtain ⟨S5, hS5, h⟩ := sy_b_e h
    refine sy_p1 fx X (sy_OChain_o ht) 5 (by decide) wm_803 (fun _ h9 => h9) rfl (ty := .int) (by decide +kernel) rfl rfl hS5 sy_s1_5 dX1_find_14 (fun H locs X => ?_)
    refine lv_aload_n hx hb dX1_find_17 rfl (lv_at hl 0 rfl) ?_
    refine sy_g1 fx X (sy_OChain_o ht) 5 (by decide) wm_803 (fun _ h9 => h9) rfl dX1_find_18 ?_
    refine lv_if_ne (tgt := 25) hx hb dX1_find_21 (by decide) (fun c6 => ?_) (fun c6 => ?_)
    · have h := sy_f c6 h
      refine lv_iconst (v := 0) hx hb dX1_find_25 (by decide) ?_
      refine lv_istore_n (lv' := [(3, .int 0), (0, .ref (sy_ad E 379)), (1, .ref (sy_ad E k0)), (2, .int p1)]) hx hb dX1_find_26 rfl hl (by decide) rfl (fun ls hl => ?_)
      exact L_27 sy_F p1 0 S5 _ _ _ X (lv_sub hl [1, 2, 3, 0] rfl) h
    · have h := sy_t c6 h
      exact sy_vret fx X hr hlk h dX1_find_24
  · have h := sy_f c4 h
    refine lv_iconst (v := 0) hx hb dX1_find_9 (by decide) ?_
    refine lv_goto (tgt := 14) hx hb dX1_find_10 (by decide) ?_
    obtain ⟨S7, hS7, h⟩ := sy_b_e h
    refine sy_p1 fx X (sy_OChain_o ht) 5 (by decide) wm_803 (fun _ h9 => h9) rfl (ty := .int) (by decide +kernel) rfl rfl hS7 sy_s1_5 dX1_find_14 (fun H locs X => ?_)
    refine lv_aload_n hx hb dX1_find_17 rfl (lv_at hl 0 rfl) ?_
    refine sy_g1 fx X (sy_OChain_o ht) 5 (by decide) wm_803 (fun _ h9 => h9) rfl dX1_find_18 ?_
    refine lv_if_ne (tgt := 25) hx hb dX1_find_21 (by decide) (fun c8 => ?_) (fun c8 => ?_)
    · have h := sy_f c8 h
      refine lv_iconst (v := 0) hx hb dX1_find_25 (by decide) ?_
      refine lv_istore_n (lv' := [(3, .int 0), (0, .ref (sy_ad E 379)), (1, .ref (sy_ad E k0)), (2, .int p1)]) hx hb dX1_find_26 rfl hl (by decide) rfl (fun ls hl => ?_)
      exact L_27 sy_F p1 0 S7 _ _ _ X (lv_sub hl [1, 2, 3, 0] rfl) h
    · have h := sy_t c8 h
      exact sy_vret fx X hr hlk h dX1_find_24
