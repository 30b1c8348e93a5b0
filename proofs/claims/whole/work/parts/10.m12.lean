def m_Model_power_B4 (kk4 : Int32 → Int32 → Int32 → Int32 → sy_St → sy_R) (y0 : Int32) (y1 : Int32) (y2 : Int32) (y3 : Int32) (S : sy_St) : sy_R := if y1 ≤ y3 then (some (y2, S)) else (sy_b (y2 * y0 : Int32) fun x2 => sy_b (y3 + 1 : Int32) fun x3 => kk4 y0 y1 x2 x3 S)
def m_Model_power (p0 : Int32) (p1 : Int32) (S : sy_St) : sy_R := sy_fix (fun _ _ _ _ _ => none) (m_Model_power_B4) sy_F p0 p1 1 0 S
theorem cv_Model_power : sy_cS RX12 yX12_power cX12_power 4 (some .int) 2 := ⟨wm_768, wm_5, wm_769, by decide +kernel⟩
set_option maxRecDepth 100000 in
set_option maxHeartbeats 40000000 in
theorem c_Model_power (l : Launch) {E : sy_ET} {p0 : Int32} {p1 : Int32} {S S' : sy_St} {r : Int32} (h : m_Model_power p0 p1 S = some (r, S')) : sy_MI l yX12_power cX12_power 4 (some .int) 0 0 [.int p0, .int p1] E S r S' := by
  refine sy_MI_of RX12 pn_12 rfl (Nat.le_of_ble_eq_true rfl) (fun p e s m args below meth c A ls fx hr hlk hA X hl => ?_)
  have hx := fx.1
  have hb := fx.2.1
  have hown := fx.2.2.2.1
  have hts := fx.2.2.2.2
  have hl : lv_has ls 4 [(0, .int p0), (1, .int p1)] := hl
  have L_4 : ∀ (n4 : Nat) (y0 y1 y2 y3 : Int32) (S : sy_St) (H : Heap) (locs : List Loc) (ls : Array Slot), sy_Wd E A s S H locs → lv_has ls 4 [(0, .int y0), (1, .int y1), (2, .int y2), (3, .int y3)] → sy_fix (fun _ _ _ _ _ => none) (m_Model_power_B4) n4 y0 y1 y2 y3 S = some (r, S') → W p l e (sy_rm 0 0) s m args below meth c H locs 0 0 (MQ below (sy_Qi E A r S') args s 0 0 A) (F0 m 4 ls []) := by
    intro n4
    induction n4 with
    | zero => intro y0 y1 y2 y3 S H locs ls X hl h; have h9 : (none : sy_R) = some (r, S') := h; cases h9
    | succ n4 ih4 =>
      intro y0 y1 y2 y3 S H locs ls X hl h
      have h : m_Model_power_B4 (sy_fix (fun _ _ _ _ _ => none) (m_Model_power_B4) n4) y0 y1 y2 y3 S = some (r, S') := h
      unfold m_Model_power_B4 at h
      refine lv_iload_n hx hb dX12_power_4 rfl (lv_at hl 3 rfl) ?_
      refine lv_iload_n hx hb dX12_power_5 rfl (lv_at hl 1 rfl) ?_
      refine lv_icmp_ge (tgt := 19) hx hb dX12_power_6 (by decide) (fun c1 => ?_) (fun c1 => ?_)
      · have h := sy_t c1 h
        refine lv_iload_n hx hb dX12_power_19 rfl (lv_at hl 2 rfl) ?_
        exact sy_iret fx X hr hlk h dX12_power_20
      · have h := sy_f c1 h
        refine lv_iload_n hx hb dX12_power_9 rfl (lv_at hl 2 rfl) ?_
        refine lv_iload_n hx hb dX12_power_10 rfl (lv_at hl 0 rfl) ?_
        refine lv_imul hx hb dX12_power_11 ?_
        obtain ⟨x2, hx2, h⟩ := sy_b_e h
        refine sy_top hx2 ?_
        refine lv_istore_n (lv' := [(2, .int x2), (0, .int y0), (1, .int y1), (3, .int y3)]) hx hb dX12_power_12 rfl hl (by decide) rfl (fun ls hl => ?_)
        obtain ⟨x3, hx3, h⟩ := sy_b_e h
        refine lv_iinc (v := x3) (lv' := [(3, .int x3), (2, .int x2), (0, .int y0), (1, .int y1)]) hx hb dX12_power_13 hl (k := 3) rfl (by rw [hx3]; rfl) (by decide) rfl (fun ls hl => ?_)
        refine lv_goto (tgt := 4) hx hb dX12_power_16 (by decide) ?_
        exact ih4 y0 y1 x2 x3 S _ _ _ X (lv_sub hl [2, 3, 1, 0] rfl) h
  unfold m_Model_power at h
  refine lv_iconst (v := 1) hx hb dX12_power_0 (by decide) ?_
  refine lv_istore_n (lv' := [(2, .int 1), (0, .int p0), (1, .int p1)]) hx hb dX12_power_1 rfl hl (by decide) rfl (fun ls hl => ?_)
  refine lv_iconst (v := 0) hx hb dX12_power_2 (by decide) ?_
  refine lv_istore_n (lv' := [(3, .int 0), (2, .int 1), (0, .int p0), (1, .int p1)]) hx hb dX12_power_3 rfl hl (by decide) rfl (fun ls hl => ?_)
  exact L_4 sy_F p0 p1 1 0 S _ _ _ X (lv_sub hl [2, 3, 1, 0] rfl) h
def m_Model_see (p0 : Int32) (S : sy_St) : sy_R := sy_c (m_Model_in p0 0 99 S) fun r2 S1 => if r2 = 0 then (some ((-1000000002), S1)) else (if (S1 392 28) = 5 then (some ((-1000000004), S1)) else (sy_g (sy_in (S1 392 28) 5) <| sy_b (sy_up S1 405 ((S1 392 28).toNatClampNeg) p0) fun S7 => sy_b (sy_up S7 392 28 ((S7 392 28) + 1)) fun S8 => some (S8 392 28, S8)))
theorem cv_Model_see : sy_cV RX12 yX12_see cX12_see 2 (some .int) 1 := ⟨wm_977, wm_978, wm_5, wm_979, by decide +kernel⟩
set_option maxRecDepth 100000 in
set_option maxHeartbeats 40000000 in
theorem c_Model_see (l : Launch) {E : sy_ET} (ht : sy_OModel E) {p0 : Int32} {S S' : sy_St} {r : Int32} (h : m_Model_see p0 S = some (r, S')) : sy_MI l yX12_see cX12_see 2 (some .int) 1 22 [.ref (sy_ad E 392), .int p0] E S r S' := by
  refine sy_MI_of RX12 pn_12 rfl (Nat.le_of_ble_eq_true rfl) (fun p e s m args below meth c A ls fx hr hlk hA X hl => ?_)
  have hx := fx.1
  have hb := fx.2.1
  have hown := fx.2.2.2.1
  have hts := fx.2.2.2.2
  have hl : lv_has ls 2 [(0, .ref (sy_ad E 392)), (1, .int p0)] := hl
  unfold m_Model_see at h
  refine lv_iload_n hx hb dX12_see_0 rfl (lv_at hl 1 rfl) ?_
  refine lv_iconst (v := 0) hx hb dX12_see_1 (by decide) ?_
  refine lv_bipush (v := 99) hx hb dX12_see_2 (by decide) ?_
  obtain ⟨r2, S1, hc3, h⟩ := sy_c_e h
  refine sy_si (rest := []) fx hA X hl.1 (c_Model_in l hc3) cv_Model_in wm_211 ⟨Nat.le_of_ble_eq_true rfl, Nat.le_of_ble_eq_true rfl, Nat.le_refl _, Nat.le_refl _⟩ rfl rfl (Nat.le_of_ble_eq_true rfl) dX12_see_4 (fun H locs X => ?_)
  refine lv_if_ne (tgt := 13) hx hb dX12_see_7 (by decide) (fun c4 => ?_) (fun c4 => ?_)
  · have h := sy_f c4 h
    refine lv_aload_n hx hb dX12_see_13 rfl (lv_at hl 0 rfl) ?_
    refine sy_g11 fx X (sy_OModel_o ht) 28 (by decide) wm_190 (fun _ h9 => h9) rfl dX12_see_14 ?_
    refine lv_iconst (v := 5) hx hb dX12_see_17 (by decide) ?_
    refine lv_icmp_ne (tgt := 24) hx hb dX12_see_18 (by decide) (fun c5 => ?_) (fun c5 => ?_)
    · have h := sy_f c5 h
      refine lv_aload_n hx hb dX12_see_24 rfl (lv_at hl 0 rfl) ?_
      refine sy_q11 fx X (sy_OModel_o ht) 29 (by decide) wm_179 (fun _ h9 => h9) rfl (sy_OModel_r29 ht) dX12_see_25 ?_
      refine lv_aload_n hx hb dX12_see_28 rfl (lv_at hl 0 rfl) ?_
      refine sy_g11 fx X (sy_OModel_o ht) 28 (by decide) wm_190 (fun _ h9 => h9) rfl dX12_see_29 ?_
      refine lv_iload_n hx hb dX12_see_32 rfl (lv_at hl 1 rfl) ?_
      obtain ⟨g6, h⟩ := sy_g_e h
      obtain ⟨S7, hS7, h⟩ := sy_b_e h
      refine sy_iast fx X (sy_OModel_a29 ht) g6 hS7 dX12_see_33 (fun H locs X => ?_)
      refine lv_aload_n hx hb dX12_see_34 rfl (lv_at hl 0 rfl) ?_
      refine lv_dup hx hb dX12_see_35 rfl ?_
      refine sy_g11 fx X (sy_OModel_o ht) 28 (by decide) wm_190 (fun _ h9 => h9) rfl dX12_see_36 ?_
      refine lv_iconst (v := 1) hx hb dX12_see_39 (by decide) ?_
      refine lv_iadd hx hb dX12_see_40 ?_
      obtain ⟨S8, hS8, h⟩ := sy_b_e h
      refine sy_p11 fx X (sy_OModel_o ht) 28 (by decide) wm_190 (fun _ h9 => h9) rfl (ty := .int) (by decide +kernel) rfl rfl hS8 sy_s11_28 dX12_see_41 (fun H locs X => ?_)
      refine lv_aload_n hx hb dX12_see_44 rfl (lv_at hl 0 rfl) ?_
      refine sy_g11 fx X (sy_OModel_o ht) 28 (by decide) wm_190 (fun _ h9 => h9) rfl dX12_see_45 ?_
      exact sy_iret fx X hr hlk h dX12_see_48
    · have h := sy_t c5 h
      refine lv_ldc (v := (-1000000004)) hx hb hown (hts _ wm_210) dX12_see_21 ?_
      exact sy_iret fx X hr hlk h dX12_see_23
  · have h := sy_t c4 h
    refine lv_ldc (v := (-1000000002)) hx hb hown (hts _ wm_208) dX12_see_10 ?_
    exact sy_iret fx X hr hlk h dX12_see_12
def m_Model_seed (p0 : Int32) (S : sy_St) : sy_R := if 0 ≤ p0 then (sy_b (S 400 ((6 : Int32).toNatClampNeg) : Int32) fun x2 => sy_b (sy_up S 400 ((6 : Int32).toNatClampNeg) p0) fun S3 => some (x2, S3)) else (some ((-1000000002), S))
theorem cv_Model_seed : sy_cV RX12 yX12_seed cX12_seed 3 (some .int) 1 := ⟨wm_1054, wm_1055, wm_5, wm_1056, by decide +kernel⟩
set_option maxRecDepth 100000 in
set_option maxHeartbeats 40000000 in
theorem c_Model_seed (l : Launch) {E : sy_ET} (ht : sy_OModel E) {p0 : Int32} {S S' : sy_St} {r : Int32} (h : m_Model_seed p0 S = some (r, S')) : sy_MI l yX12_seed cX12_seed 3 (some .int) 0 0 [.ref (sy_ad E 392), .int p0] E S r S' := by
  refine sy_MI_of RX12 pn_12 rfl (Nat.le_of_ble_eq_true rfl) (fun p e s m args below meth c A ls fx hr hlk hA X hl => ?_)
  have hx := fx.1
  have hb := fx.2.1
  have hown := fx.2.2.2.1
  have hts := fx.2.2.2.2
  have hl : lv_has ls 3 [(0, .ref (sy_ad E 392)), (1, .int p0)] := hl
  unfold m_Model_seed at h
  refine lv_iload_n hx hb dX12_seed_0 rfl (lv_at hl 1 rfl) ?_
  refine lv_if_ge (tgt := 7) hx hb dX12_seed_1 (by decide) (fun c1 => ?_) (fun c1 => ?_)
  · have h := sy_t c1 h
    refine lv_aload_n hx hb dX12_seed_7 rfl (lv_at hl 0 rfl) ?_
    refine sy_q11 fx X (sy_OModel_o ht) 22 (by decide) wm_174 (fun _ h9 => h9) rfl (sy_OModel_r22 ht) dX12_seed_8 ?_
    refine lv_bipush (v := 6) hx hb dX12_seed_11 (by decide) ?_
    refine sy_iald fx X (sy_OModel_a22 ht) (by decide) dX12_seed_13 ?_
    obtain ⟨x2, hx2, h⟩ := sy_b_e h
    refine sy_top hx2 ?_
    refine lv_istore_n (lv' := [(2, .int x2), (0, .ref (sy_ad E 392)), (1, .int p0)]) hx hb dX12_seed_14 rfl hl (by decide) rfl (fun ls hl => ?_)
    refine lv_aload_n hx hb dX12_seed_15 rfl (lv_at hl 1 rfl) ?_
    refine sy_q11 fx X (sy_OModel_o ht) 22 (by decide) wm_174 (fun _ h9 => h9) rfl (sy_OModel_r22 ht) dX12_seed_16 ?_
    refine lv_bipush (v := 6) hx hb dX12_seed_19 (by decide) ?_
    refine lv_iload_n hx hb dX12_seed_21 rfl (lv_at hl 2 rfl) ?_
    obtain ⟨S3, hS3, h⟩ := sy_b_e h
    refine sy_iast fx X (sy_OModel_a22 ht) (by decide) hS3 dX12_seed_22 (fun H locs X => ?_)
    refine lv_iload_n hx hb dX12_seed_23 rfl (lv_at hl 0 rfl) ?_
    exact sy_iret fx X hr hlk h dX12_seed_24
  · have h := sy_f c1 h
    refine lv_ldc (v := (-1000000002)) hx hb hown (hts _ wm_208) dX12_seed_4 ?_
    exact sy_iret fx X hr hlk h dX12_seed_6
def m_Model_shifts_B95 (kk38 : Int32 → Int32 → Int32 → Int32 → Int32 → sy_St → sy_R) (kk95 : Int32 → Int32 → Int32 → Int32 → Int32 → Int32 → sy_St → sy_R) (y1 : Int32) (y2 : Int32) (y3 : Int32) (y4 : Int32) (y5 : Int32) (y7 : Int32) (S : sy_St) : sy_R := if y1 ≤ y7 then (sy_b (y5 + 1 : Int32) fun x39 => kk38 y1 y2 y3 y4 x39 S) else (sy_g (sy_in y7 5) <| sy_g (sy_in y7 6) <| sy_b (sy_up S 408 y7.toNatClampNeg (S 407 y7.toNatClampNeg)) fun S42 => sy_b (y7 + 1 : Int32) fun x43 => kk95 y1 y2 y3 y4 y5 x43 S42)
def m_Model_shifts_J78 (kk38 : Int32 → Int32 → Int32 → Int32 → Int32 → sy_St → sy_R) (y1 : Int32) (y2 : Int32) (y3 : Int32) (y4 : Int32) (y5 : Int32) (y6 : Int32) (S : sy_St) : sy_R := sy_c (m_Model_goesFor y1 y2 S) fun r34 S33 => if r34 = y1 then (sy_fix (fun _ _ _ _ _ _ _ => none) (m_Model_shifts_B95 kk38) sy_F y1 y2 y3 y6 y5 0 S33) else (sy_b (y5 + 1 : Int32) fun x37 => kk38 y1 y2 y3 y4 x37 S33)
def m_Model_shifts_B38 (kk38 : Int32 → Int32 → Int32 → Int32 → Int32 → sy_St → sy_R) (y1 : Int32) (y2 : Int32) (y3 : Int32) (y4 : Int32) (y5 : Int32) (S : sy_St) : sy_R := sy_c (m_Model_power (S 392 19) y1 S) fun r14 S13 => if r14 ≤ y5 then (if y3 = (-1) then (some (y4, S13)) else (if y4 = (-1) then (some ((-1), S13)) else (sy_c (m_Model_in y3 0 (y1 - 1) S13) fun r20 S19 => if r20 = 0 then (some ((-1), S19)) else (sy_g (sy_in y3 6) <| some (S19 408 y3.toNatClampNeg, S19))))) else (sy_c (m_Model_lay y5 y1 S13) fun r25 S24 => sy_c (m_Model_mostOf y1 S24) fun r28 S27 => if y4 = (-1) then (m_Model_shifts_J78 kk38 y1 y2 y3 y4 y5 r28 S27) else (if y4 ≤ r28 then (sy_b (y5 + 1 : Int32) fun x32 => kk38 y1 y2 y3 y4 x32 S27) else (m_Model_shifts_J78 kk38 y1 y2 y3 y4 y5 r28 S27)))
def m_Model_shifts (p0 : Int32) (p1 : Int32) (p2 : Int32) (S : sy_St) : sy_R := sy_c (m_Model_in p0 1 5 S) fun r2 S1 => if r2 = 0 then (some ((-1000000002), S1)) else (sy_c (m_Model_in p1 0 99 S1) fun r6 S5 => if r6 = 0 then (some ((-1000000002), S5)) else (sy_c (m_Model_isHere S5) fun r10 S9 => if r10 = 0 then (some ((-1000000003), S9)) else (sy_fix (fun _ _ _ _ _ _ => none) (m_Model_shifts_B38) sy_F p0 p1 p2 (-1) 0 S9)))
theorem cv_Model_shifts : sy_cV RX12 yX12_shifts cX12_shifts 8 (some .int) 3 := ⟨wm_764, wm_765, wm_5, wm_766, by decide +kernel⟩
set_option maxRecDepth 100000 in
set_option maxHeartbeats 40000000 in
theorem c_Model_shifts (l : Launch) {E : sy_ET} (ht : sy_OModel E) {p0 : Int32} {p1 : Int32} {p2 : Int32} {S S' : sy_St} {r : Int32} (h : m_Model_shifts p0 p1 p2 S = some (r, S')) : sy_MI l yX12_shifts cX12_shifts 8 (some .int) 5 115 [.ref (sy_ad E 392), .int p0, .int p1, .int p2] E S r S' := by
  refine sy_MI_of RX12 pn_12 rfl (Nat.le_of_ble_eq_true rfl) (fun p e s m args below meth c A ls fx hr hlk hA X hl => ?_)
  have hx := fx.1
  have hb := fx.2.1
  have hown := fx.2.2.2.1
  have hts := fx.2.2.2.2
  have hl : lv_has ls 8 [(0, .ref (sy_ad E 392)), (1, .int p0), (2, .int p1), (3, .int p2)] := hl
  have L_38 : ∀ (n38 : Nat) (y1 y2 y3 y4 y5 : Int32) (S : sy_St) (H : Heap) (locs : List Loc) (ls : Array Slot), sy_Wd E A s S H locs → lv_has ls 8 [(0, .ref (sy_ad E 392)), (1, .int y1), (2, .int y2), (3, .int y3), (4, .int y4), (5, .int y5)] → sy_fix (fun _ _ _ _ _ _ => none) (m_Model_shifts_B38) n38 y1 y2 y3 y4 y5 S = some (r, S') → W p l e (sy_rm 5 115) s m args below meth c H locs 0 0 (MQ below (sy_Qi E A r S') args s 0 0 A) (F0 m 38 ls []) := by
    intro n38
    induction n38 with
    | zero => intro y1 y2 y3 y4 y5 S H locs ls X hl h; have h9 : (none : sy_R) = some (r, S') := h; cases h9
    | succ n38 ih38 =>
      have L_95 : ∀ (n95 : Nat) (y1 y2 y3 y4 y5 y7 : Int32) (S : sy_St) (H : Heap) (locs : List Loc) (ls : Array Slot), sy_Wd E A s S H locs → lv_has ls 8 [(0, .ref (sy_ad E 392)), (1, .int y1), (2, .int y2), (3, .int y3), (4, .int y4), (5, .int y5), (7, .int y7)] → sy_fix (fun _ _ _ _ _ _ _ => none) (m_Model_shifts_B95 (sy_fix (fun _ _ _ _ _ _ => none) (m_Model_shifts_B38) n38)) n95 y1 y2 y3 y4 y5 y7 S = some (r, S') → W p l e (sy_rm 5 115) s m args below meth c H locs 0 0 (MQ below (sy_Qi E A r S') args s 0 0 A) (F0 m 95 ls []) := by
        intro n95
        induction n95 with
        | zero => intro y1 y2 y3 y4 y5 y7 S H locs ls X hl h; have h9 : (none : sy_R) = some (r, S') := h; cases h9
        | succ n95 ih95 =>
          intro y1 y2 y3 y4 y5 y7 S H locs ls X hl h
          have h : m_Model_shifts_B95 (sy_fix (fun _ _ _ _ _ _ => none) (m_Model_shifts_B38) n38) (sy_fix (fun _ _ _ _ _ _ _ => none) (m_Model_shifts_B95 (sy_fix (fun _ _ _ _ _ _ => none) (m_Model_shifts_B38) n38)) n95) y1 y2 y3 y4 y5 y7 S = some (r, S') := h
          unfold m_Model_shifts_B95 at h
          refine lv_iload hx hb dX12_shifts_95 (lv_at hl 6 rfl) ?_
          refine lv_iload_n hx hb dX12_shifts_97 rfl (lv_at hl 1 rfl) ?_
          refine lv_icmp_ge (tgt := 121) hx hb dX12_shifts_98 (by decide) (fun c38 => ?_) (fun c38 => ?_)
          · have h := sy_t c38 h
            obtain ⟨x39, hx39, h⟩ := sy_b_e h
            refine lv_iinc (v := x39) (lv' := [(5, .int x39), (0, .ref (sy_ad E 392)), (1, .int y1), (2, .int y2), (3, .int y3), (4, .int y4), (7, .int y7)]) hx hb dX12_shifts_121 hl (k := 5) rfl (by rw [hx39]; rfl) (by decide) rfl (fun ls hl => ?_)
            refine lv_goto (tgt := 38) hx hb dX12_shifts_124 (by decide) ?_
            exact ih38 y1 y2 y3 y4 x39 S _ _ _ X (lv_sub hl [1, 2, 3, 4, 5, 0] rfl) h
          · have h := sy_f c38 h
            refine lv_aload_n hx hb dX12_shifts_101 rfl (lv_at hl 0 rfl) ?_
            refine sy_q11 fx X (sy_OModel_o ht) 33 (by decide) wm_182 (fun _ h9 => h9) rfl (sy_OModel_r33 ht) dX12_shifts_102 ?_
            refine lv_iload hx hb dX12_shifts_105 (lv_at hl 6 rfl) ?_
            refine lv_aload_n hx hb dX12_shifts_107 rfl (lv_at hl 0 rfl) ?_
            refine sy_q11 fx X (sy_OModel_o ht) 32 (by decide) wm_181 (fun _ h9 => h9) rfl (sy_OModel_r32 ht) dX12_shifts_108 ?_
            refine lv_iload hx hb dX12_shifts_111 (lv_at hl 6 rfl) ?_
            obtain ⟨g40, h⟩ := sy_g_e h
            refine sy_iald fx X (sy_OModel_a32 ht) g40 dX12_shifts_113 ?_
            obtain ⟨g41, h⟩ := sy_g_e h
            obtain ⟨S42, hS42, h⟩ := sy_b_e h
            refine sy_iast fx X (sy_OModel_a33 ht) g41 hS42 dX12_shifts_114 (fun H locs X => ?_)
            obtain ⟨x43, hx43, h⟩ := sy_b_e h
            refine lv_iinc (v := x43) (lv' := [(7, .int x43), (0, .ref (sy_ad E 392)), (1, .int y1), (2, .int y2), (3, .int y3), (4, .int y4), (5, .int y5)]) hx hb dX12_shifts_115 hl (k := 6) rfl (by rw [hx43]; rfl) (by decide) rfl (fun ls hl => ?_)
            refine lv_goto (tgt := 95) hx hb dX12_shifts_118 (by decide) ?_
            exact ih95 y1 y2 y3 y4 y5 x43 S42 _ _ _ X (lv_sub hl [1, 2, 3, 4, 5, 6, 0] rfl) h
      have J_78 : ∀ (y1 y2 y3 y4 y5 y6 : Int32) (S : sy_St) (H : Heap) (locs : List Loc) (ls : Array Slot), sy_Wd E A s S H locs → lv_has ls 8 [(0, .ref (sy_ad E 392)), (1, .int y1), (2, .int y2), (3, .int y3), (4, .int y4), (5, .int y5), (6, .int y6)] → m_Model_shifts_J78 (sy_fix (fun _ _ _ _ _ _ => none) (m_Model_shifts_B38) n38) y1 y2 y3 y4 y5 y6 S = some (r, S') → W p l e (sy_rm 5 115) s m args below meth c H locs 0 0 (MQ below (sy_Qi E A r S') args s 0 0 A) (F0 m 78 ls []) := by
        intro y1 y2 y3 y4 y5 y6 S H locs ls X hl h
        unfold m_Model_shifts_J78 at h
        refine lv_aload_n hx hb dX12_shifts_78 rfl (lv_at hl 0 rfl) ?_
        refine lv_iload_n hx hb dX12_shifts_79 rfl (lv_at hl 1 rfl) ?_
        refine lv_iload_n hx hb dX12_shifts_80 rfl (lv_at hl 2 rfl) ?_
        obtain ⟨r34, S33, hc35, h⟩ := sy_c_e h
        refine sy_vi (rest := []) fx hA X hl.1 (sy_OModel_o ht) (sy_en11 (sy_OModel_o ht).2) rfl (c_Model_goesFor l ht hc35) cv_Model_goesFor wm_778 ⟨Nat.le_of_ble_eq_true rfl, Nat.le_of_ble_eq_true rfl, Nat.le_refl _, Nat.le_refl _⟩ rfl rfl (Nat.le_of_ble_eq_true rfl) dX12_shifts_81 (fun H locs X => ?_)
        refine lv_iload_n hx hb dX12_shifts_84 rfl (lv_at hl 1 rfl) ?_
        refine lv_icmp_ne (tgt := 121) hx hb dX12_shifts_85 (by decide) (fun c36 => ?_) (fun c36 => ?_)
        · have h := sy_f c36 h
          obtain ⟨x37, hx37, h⟩ := sy_b_e h
          refine lv_iinc (v := x37) (lv' := [(5, .int x37), (0, .ref (sy_ad E 392)), (1, .int y1), (2, .int y2), (3, .int y3), (4, .int y4), (6, .int y6)]) hx hb dX12_shifts_121 hl (k := 5) rfl (by rw [hx37]; rfl) (by decide) rfl (fun ls hl => ?_)
          refine lv_goto (tgt := 38) hx hb dX12_shifts_124 (by decide) ?_
          exact ih38 y1 y2 y3 y4 x37 S33 _ _ _ X (lv_sub hl [1, 2, 3, 4, 5, 0] rfl) h
        · have h := sy_t c36 h
          refine lv_iload hx hb dX12_shifts_88 (lv_at hl 6 rfl) ?_
          refine lv_istore (lv' := [(4, .int y6), (0, .ref (sy_ad E 392)), (1, .int y1), (2, .int y2), (3, .int y3), (5, .int y5), (6, .int y6)]) hx hb dX12_shifts_90 hl (by decide) rfl (fun ls hl => ?_)
          refine lv_iconst (v := 0) hx hb dX12_shifts_92 (by decide) ?_
          refine lv_istore (lv' := [(7, .int 0), (4, .int y6), (0, .ref (sy_ad E 392)), (1, .int y1), (2, .int y2), (3, .int y3), (5, .int y5), (6, .int y6)]) hx hb dX12_shifts_93 hl (by decide) rfl (fun ls hl => ?_)
          exact L_95 sy_F y1 y2 y3 y6 y5 0 S33 _ _ _ X (lv_sub hl [2, 3, 4, 5, 1, 6, 0] rfl) h
      intro y1 y2 y3 y4 y5 S H locs ls X hl h
      have h : m_Model_shifts_B38 (sy_fix (fun _ _ _ _ _ _ => none) (m_Model_shifts_B38) n38) y1 y2 y3 y4 y5 S = some (r, S') := h
      unfold m_Model_shifts_B38 at h
      refine lv_iload hx hb dX12_shifts_38 (lv_at hl 5 rfl) ?_
      refine lv_aload_n hx hb dX12_shifts_40 rfl (lv_at hl 0 rfl) ?_
      refine sy_g11 fx X (sy_OModel_o ht) 19 (by decide) wm_188 (fun _ h9 => h9) rfl dX12_shifts_41 ?_
      refine lv_iload_n hx hb dX12_shifts_44 rfl (lv_at hl 1 rfl) ?_
      obtain ⟨r14, S13, hc15, h⟩ := sy_c_e h
      refine sy_si (rest := [.int y5]) fx hA X hl.1 (c_Model_power l hc15) cv_Model_power wm_767 ⟨Nat.le_of_ble_eq_true rfl, Nat.le_of_ble_eq_true rfl, Nat.le_refl _, Nat.le_refl _⟩ rfl rfl (Nat.le_of_ble_eq_true rfl) dX12_shifts_45 (fun H locs X => ?_)
      refine lv_icmp_ge (tgt := 127) hx hb dX12_shifts_48 (by decide) (fun c16 => ?_) (fun c16 => ?_)
      · have h := sy_t c16 h
        refine lv_iload_n hx hb dX12_shifts_127 rfl (lv_at hl 3 rfl) ?_
        refine lv_iconst (v := (-1)) hx hb dX12_shifts_128 (by decide) ?_
        refine lv_icmp_ne (tgt := 137) hx hb dX12_shifts_129 (by decide) (fun c17 => ?_) (fun c17 => ?_)
        · have h := sy_f c17 h
          refine lv_iload hx hb dX12_shifts_137 (lv_at hl 4 rfl) ?_
          refine lv_iconst (v := (-1)) hx hb dX12_shifts_139 (by decide) ?_
          refine lv_icmp_eq (tgt := 154) hx hb dX12_shifts_140 (by decide) (fun c18 => ?_) (fun c18 => ?_)
          · have h := sy_t c18 h
            refine lv_iconst (v := (-1)) hx hb dX12_shifts_154 (by decide) ?_
            refine lv_goto (tgt := 164) hx hb dX12_shifts_155 (by decide) ?_
            exact sy_iret fx X hr hlk h dX12_shifts_164
          · have h := sy_f c18 h
            refine lv_iload_n hx hb dX12_shifts_143 rfl (lv_at hl 3 rfl) ?_
            refine lv_iconst (v := 0) hx hb dX12_shifts_144 (by decide) ?_
            refine lv_iload_n hx hb dX12_shifts_145 rfl (lv_at hl 1 rfl) ?_
            refine lv_iconst (v := 1) hx hb dX12_shifts_146 (by decide) ?_
            refine lv_isub hx hb dX12_shifts_147 ?_
            obtain ⟨r20, S19, hc21, h⟩ := sy_c_e h
            refine sy_si (rest := []) fx hA X hl.1 (c_Model_in l hc21) cv_Model_in wm_211 ⟨Nat.le_of_ble_eq_true rfl, Nat.le_of_ble_eq_true rfl, Nat.le_refl _, Nat.le_refl _⟩ rfl rfl (Nat.le_of_ble_eq_true rfl) dX12_shifts_148 (fun H locs X => ?_)
            refine lv_if_ne (tgt := 158) hx hb dX12_shifts_151 (by decide) (fun c22 => ?_) (fun c22 => ?_)
            · have h := sy_f c22 h
              refine lv_aload_n hx hb dX12_shifts_158 rfl (lv_at hl 0 rfl) ?_
              refine sy_q11 fx X (sy_OModel_o ht) 33 (by decide) wm_182 (fun _ h9 => h9) rfl (sy_OModel_r33 ht) dX12_shifts_159 ?_
              refine lv_iload_n hx hb dX12_shifts_162 rfl (lv_at hl 3 rfl) ?_
              obtain ⟨g23, h⟩ := sy_g_e h
              refine sy_iald fx X (sy_OModel_a33 ht) g23 dX12_shifts_163 ?_
              exact sy_iret fx X hr hlk h dX12_shifts_164
            · have h := sy_t c22 h
              refine lv_iconst (v := (-1)) hx hb dX12_shifts_154 (by decide) ?_
              refine lv_goto (tgt := 164) hx hb dX12_shifts_155 (by decide) ?_
              exact sy_iret fx X hr hlk h dX12_shifts_164
        · have h := sy_t c17 h
          refine lv_iload hx hb dX12_shifts_132 (lv_at hl 4 rfl) ?_
          refine lv_goto (tgt := 164) hx hb dX12_shifts_134 (by decide) ?_
          exact sy_iret fx X hr hlk h dX12_shifts_164
      · have h := sy_f c16 h
        refine lv_aload_n hx hb dX12_shifts_51 rfl (lv_at hl 0 rfl) ?_
        refine lv_iload hx hb dX12_shifts_52 (lv_at hl 5 rfl) ?_
        refine lv_iload_n hx hb dX12_shifts_54 rfl (lv_at hl 1 rfl) ?_
        obtain ⟨r25, S24, hc26, h⟩ := sy_c_e h
        refine sy_vv (rest := []) fx hA X hl.1 (sy_OModel_o ht) (sy_en11 (sy_OModel_o ht).2) rfl (c_Model_lay l ht hc26) cv_Model_lay wm_770 ⟨Nat.le_of_ble_eq_true rfl, Nat.le_of_ble_eq_true rfl, Nat.le_refl _, Nat.le_refl _⟩ rfl rfl (Nat.le_of_ble_eq_true rfl) dX12_shifts_55 (fun H locs X => ?_)
        refine lv_aload_n hx hb dX12_shifts_58 rfl (lv_at hl 0 rfl) ?_
        refine lv_iload_n hx hb dX12_shifts_59 rfl (lv_at hl 1 rfl) ?_
        obtain ⟨r28, S27, hc29, h⟩ := sy_c_e h
        refine sy_vi (rest := []) fx hA X hl.1 (sy_OModel_o ht) (sy_en11 (sy_OModel_o ht).2) rfl (c_Model_mostOf l ht hc29) cv_Model_mostOf wm_774 ⟨Nat.le_of_ble_eq_true rfl, Nat.le_of_ble_eq_true rfl, Nat.le_refl _, Nat.le_refl _⟩ rfl rfl (Nat.le_of_ble_eq_true rfl) dX12_shifts_60 (fun H locs X => ?_)
        refine lv_istore (lv' := [(6, .int r28), (0, .ref (sy_ad E 392)), (1, .int y1), (2, .int y2), (3, .int y3), (4, .int y4), (5, .int y5)]) hx hb dX12_shifts_63 hl (by decide) rfl (fun ls hl => ?_)
        refine lv_iload hx hb dX12_shifts_65 (lv_at hl 5 rfl) ?_
        refine lv_iconst (v := (-1)) hx hb dX12_shifts_67 (by decide) ?_
        refine lv_icmp_eq (tgt := 78) hx hb dX12_shifts_68 (by decide) (fun c30 => ?_) (fun c30 => ?_)
        · have h := sy_t c30 h
          exact J_78 y1 y2 y3 y4 y5 r28 S27 _ _ _ X (lv_sub hl [1, 2, 3, 4, 5, 6, 0] rfl) h
        · have h := sy_f c30 h
          refine lv_iload hx hb dX12_shifts_71 (lv_at hl 0 rfl) ?_
          refine lv_iload hx hb dX12_shifts_73 (lv_at hl 5 rfl) ?_
          refine lv_icmp_ge (tgt := 121) hx hb dX12_shifts_75 (by decide) (fun c31 => ?_) (fun c31 => ?_)
          · have h := sy_t c31 h
            obtain ⟨x32, hx32, h⟩ := sy_b_e h
            refine lv_iinc (v := x32) (lv' := [(5, .int x32), (6, .int r28), (0, .ref (sy_ad E 392)), (1, .int y1), (2, .int y2), (3, .int y3), (4, .int y4)]) hx hb dX12_shifts_121 hl (k := 6) rfl (by rw [hx32]; rfl) (by decide) rfl (fun ls hl => ?_)
            refine lv_goto (tgt := 38) hx hb dX12_shifts_124 (by decide) ?_
            exact ih38 y1 y2 y3 y4 x32 S27 _ _ _ X (lv_sub hl [2, 3, 4, 5, 6, 0] rfl) h
          · have h := sy_f c31 h
            exact J_78 y1 y2 y3 y4 y5 r28 S27 _ _ _ X (lv_sub hl [1, 2, 3, 4, 5, 6, 0] rfl) h
  unfold m_Model_shifts at h
  refine lv_iload_n hx hb dX12_shifts_0 rfl (lv_at hl 1 rfl) ?_
  refine lv_iconst (v := 1) hx hb dX12_shifts_1 (by decide) ?_
  refine lv_iconst (v := 5) hx hb dX12_shifts_2 (by decide) ?_
  obtain ⟨r2, S1, hc3, h⟩ := sy_c_e h
  refine sy_si (rest := []) fx hA X hl.1 (c_Model_in l hc3) cv_Model_in wm_211 ⟨Nat.le_of_ble_eq_true rfl, Nat.le_of_ble_eq_true rfl, Nat.le_refl _, Nat.le_refl _⟩ rfl rfl (Nat.le_of_ble_eq_true rfl) dX12_shifts_3 (fun H locs X => ?_)
  refine lv_if_eq (tgt := 19) hx hb dX12_shifts_6 (by decide) (fun c4 => ?_) (fun c4 => ?_)
  · have h := sy_t c4 h
    refine lv_ldc (v := (-1000000002)) hx hb hown (hts _ wm_208) dX12_shifts_19 ?_
    exact sy_iret fx X hr hlk h dX12_shifts_21
  · have h := sy_f c4 h
    refine lv_iload_n hx hb dX12_shifts_9 rfl (lv_at hl 2 rfl) ?_
    refine lv_iconst (v := 0) hx hb dX12_shifts_10 (by decide) ?_
    refine lv_bipush (v := 99) hx hb dX12_shifts_11 (by decide) ?_
    obtain ⟨r6, S5, hc7, h⟩ := sy_c_e h
    refine sy_si (rest := []) fx hA X hl.1 (c_Model_in l hc7) cv_Model_in wm_211 ⟨Nat.le_of_ble_eq_true rfl, Nat.le_of_ble_eq_true rfl, Nat.le_refl _, Nat.le_refl _⟩ rfl rfl (Nat.le_of_ble_eq_true rfl) dX12_shifts_13 (fun H locs X => ?_)
    refine lv_if_ne (tgt := 22) hx hb dX12_shifts_16 (by decide) (fun c8 => ?_) (fun c8 => ?_)
    · have h := sy_f c8 h
      refine lv_aload_n hx hb dX12_shifts_22 rfl (lv_at hl 0 rfl) ?_
      obtain ⟨r10, S9, hc11, h⟩ := sy_c_e h
      refine sy_vi (rest := []) fx hA X hl.1 (sy_OModel_o ht) (sy_en11 (sy_OModel_o ht).2) rfl (c_Model_isHere l ht hc11) cv_Model_isHere wm_531 ⟨Nat.le_of_ble_eq_true rfl, Nat.le_of_ble_eq_true rfl, Nat.le_refl _, Nat.le_refl _⟩ rfl rfl (Nat.le_of_ble_eq_true rfl) dX12_shifts_23 (fun H locs X => ?_)
      refine lv_if_ne (tgt := 32) hx hb dX12_shifts_26 (by decide) (fun c12 => ?_) (fun c12 => ?_)
      · have h := sy_f c12 h
        refine lv_iconst (v := (-1)) hx hb dX12_shifts_32 (by decide) ?_
        refine lv_istore (lv' := [(4, .int (-1)), (0, .ref (sy_ad E 392)), (1, .int p0), (2, .int p1), (3, .int p2)]) hx hb dX12_shifts_33 hl (by decide) rfl (fun ls hl => ?_)
        refine lv_iconst (v := 0) hx hb dX12_shifts_35 (by decide) ?_
        refine lv_istore (lv' := [(5, .int 0), (4, .int (-1)), (0, .ref (sy_ad E 392)), (1, .int p0), (2, .int p1), (3, .int p2)]) hx hb dX12_shifts_36 hl (by decide) rfl (fun ls hl => ?_)
        exact L_38 sy_F p0 p1 p2 (-1) 0 S9 _ _ _ X (lv_sub hl [2, 3, 4, 5, 1, 0] rfl) h
      · have h := sy_t c12 h
        refine lv_ldc (v := (-1000000003)) hx hb hown (hts _ wm_530) dX12_shifts_29 ?_
        exact sy_iret fx X hr hlk h dX12_shifts_31
    · have h := sy_t c8 h
      refine lv_ldc (v := (-1000000002)) hx hb hown (hts _ wm_208) dX12_shifts_19 ?_
      exact sy_iret fx X hr hlk h dX12_shifts_21
def m_Model_sinks_B37 (kk37 : Int32 → Int32 → Int32 → Int32 → sy_St → sy_R) (y1 : Int32) (y2 : Int32) (y3 : Int32) (y4 : Int32) (S : sy_St) : sy_R := sy_c (m_Model_power (S 392 19) y1 S) fun r14 S13 => if r14 ≤ y4 then (if y3 = y1 then (some ((-1), S13)) else (some (y3, S13))) else (sy_c (m_Model_lay y4 y1 S13) fun r19 S18 => sy_c (m_Model_goesFor y1 y2 S18) fun r22 S21 => if r22 ≤ y3 then (sy_b (y4 + 1 : Int32) fun x25 => kk37 y1 y2 y3 x25 S21) else (sy_b (y4 + 1 : Int32) fun x26 => kk37 y1 y2 r22 x26 S21))
def m_Model_sinks (p0 : Int32) (p1 : Int32) (S : sy_St) : sy_R := sy_c (m_Model_in p0 1 5 S) fun r2 S1 => if r2 = 0 then (some ((-1000000002), S1)) else (sy_c (m_Model_in p1 0 99 S1) fun r6 S5 => if r6 = 0 then (some ((-1000000002), S5)) else (sy_c (m_Model_isHere S5) fun r10 S9 => if r10 = 0 then (some ((-1000000003), S9)) else (sy_fix (fun _ _ _ _ _ => none) (m_Model_sinks_B37) sy_F p0 p1 0 0 S9)))
theorem cv_Model_sinks : sy_cV RX12 yX12_sinks cX12_sinks 6 (some .int) 2 := ⟨wm_791, wm_792, wm_5, wm_793, by decide +kernel⟩
set_option maxRecDepth 100000 in
set_option maxHeartbeats 40000000 in
theorem c_Model_sinks (l : Launch) {E : sy_ET} (ht : sy_OModel E) {p0 : Int32} {p1 : Int32} {S S' : sy_St} {r : Int32} (h : m_Model_sinks p0 p1 S = some (r, S')) : sy_MI l yX12_sinks cX12_sinks 6 (some .int) 5 115 [.ref (sy_ad E 392), .int p0, .int p1] E S r S' := by
  refine sy_MI_of RX12 pn_12 rfl (Nat.le_of_ble_eq_true rfl) (fun p e s m args below meth c A ls fx hr hlk hA X hl => ?_)
  have hx := fx.1
  have hb := fx.2.1
  have hown := fx.2.2.2.1
  have hts := fx.2.2.2.2
  have hl : lv_has ls 6 [(0, .ref (sy_ad E 392)), (1, .int p0), (2, .int p1)] := hl
  have L_37 : ∀ (n37 : Nat) (y1 y2 y3 y4 : Int32) (S : sy_St) (H : Heap) (locs : List Loc) (ls : Array Slot), sy_Wd E A s S H locs → lv_has ls 6 [(0, .ref (sy_ad E 392)), (1, .int y1), (2, .int y2), (3, .int y3), (4, .int y4)] → sy_fix (fun _ _ _ _ _ => none) (m_Model_sinks_B37) n37 y1 y2 y3 y4 S = some (r, S') → W p l e (sy_rm 5 115) s m args below meth c H locs 0 0 (MQ below (sy_Qi E A r S') args s 0 0 A) (F0 m 37 ls []) := by
    intro n37
    induction n37 with
    | zero => intro y1 y2 y3 y4 S H locs ls X hl h; have h9 : (none : sy_R) = some (r, S') := h; cases h9
    | succ n37 ih37 =>
      intro y1 y2 y3 y4 S H locs ls X hl h
      have h : m_Model_sinks_B37 (sy_fix (fun _ _ _ _ _ => none) (m_Model_sinks_B37) n37) y1 y2 y3 y4 S = some (r, S') := h
      unfold m_Model_sinks_B37 at h
      refine lv_iload hx hb dX12_sinks_37 (lv_at hl 4 rfl) ?_
      refine lv_aload_n hx hb dX12_sinks_39 rfl (lv_at hl 0 rfl) ?_
      refine sy_g11 fx X (sy_OModel_o ht) 19 (by decide) wm_188 (fun _ h9 => h9) rfl dX12_sinks_40 ?_
      refine lv_iload_n hx hb dX12_sinks_43 rfl (lv_at hl 1 rfl) ?_
      obtain ⟨r14, S13, hc15, h⟩ := sy_c_e h
      refine sy_si (rest := [.int y4]) fx hA X hl.1 (c_Model_power l hc15) cv_Model_power wm_767 ⟨Nat.le_of_ble_eq_true rfl, Nat.le_of_ble_eq_true rfl, Nat.le_refl _, Nat.le_refl _⟩ rfl rfl (Nat.le_of_ble_eq_true rfl) dX12_sinks_44 (fun H locs X => ?_)
      refine lv_icmp_ge (tgt := 84) hx hb dX12_sinks_47 (by decide) (fun c16 => ?_) (fun c16 => ?_)
      · have h := sy_t c16 h
        refine lv_iload_n hx hb dX12_sinks_84 rfl (lv_at hl 3 rfl) ?_
        refine lv_iload_n hx hb dX12_sinks_85 rfl (lv_at hl 1 rfl) ?_
        refine lv_icmp_ne (tgt := 93) hx hb dX12_sinks_86 (by decide) (fun c17 => ?_) (fun c17 => ?_)
        · have h := sy_f c17 h
          refine lv_iload_n hx hb dX12_sinks_93 rfl (lv_at hl 3 rfl) ?_
          exact sy_iret fx X hr hlk h dX12_sinks_94
        · have h := sy_t c17 h
          refine lv_iconst (v := (-1)) hx hb dX12_sinks_89 (by decide) ?_
          refine lv_goto (tgt := 94) hx hb dX12_sinks_90 (by decide) ?_
          exact sy_iret fx X hr hlk h dX12_sinks_94
      · have h := sy_f c16 h
        refine lv_aload_n hx hb dX12_sinks_50 rfl (lv_at hl 0 rfl) ?_
        refine lv_iload hx hb dX12_sinks_51 (lv_at hl 4 rfl) ?_
        refine lv_iload_n hx hb dX12_sinks_53 rfl (lv_at hl 1 rfl) ?_
        obtain ⟨r19, S18, hc20, h⟩ := sy_c_e h
        refine sy_vv (rest := []) fx hA X hl.1 (sy_OModel_o ht) (sy_en11 (sy_OModel_o ht).2) rfl (c_Model_lay l ht hc20) cv_Model_lay wm_770 ⟨Nat.le_of_ble_eq_true rfl, Nat.le_of_ble_eq_true rfl, Nat.le_refl _, Nat.le_refl _⟩ rfl rfl (Nat.le_of_ble_eq_true rfl) dX12_sinks_54 (fun H locs X => ?_)
        refine lv_aload_n hx hb dX12_sinks_57 rfl (lv_at hl 0 rfl) ?_
        refine lv_iload_n hx hb dX12_sinks_58 rfl (lv_at hl 1 rfl) ?_
        refine lv_iload_n hx hb dX12_sinks_59 rfl (lv_at hl 2 rfl) ?_
        obtain ⟨r22, S21, hc23, h⟩ := sy_c_e h
        refine sy_vi (rest := []) fx hA X hl.1 (sy_OModel_o ht) (sy_en11 (sy_OModel_o ht).2) rfl (c_Model_goesFor l ht hc23) cv_Model_goesFor wm_778 ⟨Nat.le_of_ble_eq_true rfl, Nat.le_of_ble_eq_true rfl, Nat.le_refl _, Nat.le_refl _⟩ rfl rfl (Nat.le_of_ble_eq_true rfl) dX12_sinks_60 (fun H locs X => ?_)
        refine lv_istore (lv' := [(5, .int r22), (0, .ref (sy_ad E 392)), (1, .int y1), (2, .int y2), (3, .int y3), (4, .int y4)]) hx hb dX12_sinks_63 hl (by decide) rfl (fun ls hl => ?_)
        refine lv_iload hx hb dX12_sinks_65 (lv_at hl 0 rfl) ?_
        refine lv_iload_n hx hb dX12_sinks_67 rfl (lv_at hl 4 rfl) ?_
        refine lv_icmp_le (tgt := 76) hx hb dX12_sinks_68 (by decide) (fun c24 => ?_) (fun c24 => ?_)
        · have h := sy_t c24 h
          refine lv_iload_n hx hb dX12_sinks_76 rfl (lv_at hl 4 rfl) ?_
          refine lv_istore_n (lv' := [(3, .int y3), (5, .int r22), (0, .ref (sy_ad E 392)), (1, .int y1), (2, .int y2), (4, .int y4)]) hx hb dX12_sinks_77 rfl hl (by decide) rfl (fun ls hl => ?_)
          obtain ⟨x25, hx25, h⟩ := sy_b_e h
          refine lv_iinc (v := x25) (lv' := [(4, .int x25), (3, .int y3), (5, .int r22), (0, .ref (sy_ad E 392)), (1, .int y1), (2, .int y2)]) hx hb dX12_sinks_78 hl (k := 5) rfl (by rw [hx25]; rfl) (by decide) rfl (fun ls hl => ?_)
          refine lv_goto (tgt := 37) hx hb dX12_sinks_81 (by decide) ?_
          exact ih37 y1 y2 y3 x25 S21 _ _ _ X (lv_sub hl [3, 4, 5, 1, 0] rfl) h
        · have h := sy_f c24 h
          refine lv_iload hx hb dX12_sinks_71 (lv_at hl 0 rfl) ?_
          refine lv_goto (tgt := 77) hx hb dX12_sinks_73 (by decide) ?_
          refine lv_istore_n (lv' := [(3, .int r22), (5, .int r22), (0, .ref (sy_ad E 392)), (1, .int y1), (2, .int y2), (4, .int y4)]) hx hb dX12_sinks_77 rfl hl (by decide) rfl (fun ls hl => ?_)
          obtain ⟨x26, hx26, h⟩ := sy_b_e h
          refine lv_iinc (v := x26) (lv' := [(4, .int x26), (3, .int r22), (5, .int r22), (0, .ref (sy_ad E 392)), (1, .int y1), (2, .int y2)]) hx hb dX12_sinks_78 hl (k := 5) rfl (by rw [hx26]; rfl) (by decide) rfl (fun ls hl => ?_)
          refine lv_goto (tgt := 37) hx hb dX12_sinks_81 (by decide) ?_
          exact ih37 y1 y2 r22 x26 S21 _ _ _ X (lv_sub hl [3, 4, 5, 1, 0] rfl) h
  unfold m_Model_sinks at h
  refine lv_iload_n hx hb dX12_sinks_0 rfl (lv_at hl 1 rfl) ?_
  refine lv_iconst (v := 1) hx hb dX12_sinks_1 (by decide) ?_
  refine lv_iconst (v := 5) hx hb dX12_sinks_2 (by decide) ?_
  obtain ⟨r2, S1, hc3, h⟩ := sy_c_e h
  refine sy_si (rest := []) fx hA X hl.1 (c_Model_in l hc3) cv_Model_in wm_211 ⟨Nat.le_of_ble_eq_true rfl, Nat.le_of_ble_eq_true rfl, Nat.le_refl _, Nat.le_refl _⟩ rfl rfl (Nat.le_of_ble_eq_true rfl) dX12_sinks_3 (fun H locs X => ?_)
  refine lv_if_eq (tgt := 19) hx hb dX12_sinks_6 (by decide) (fun c4 => ?_) (fun c4 => ?_)
  · have h := sy_t c4 h
    refine lv_ldc (v := (-1000000002)) hx hb hown (hts _ wm_208) dX12_sinks_19 ?_
    exact sy_iret fx X hr hlk h dX12_sinks_21
  · have h := sy_f c4 h
    refine lv_iload_n hx hb dX12_sinks_9 rfl (lv_at hl 2 rfl) ?_
    refine lv_iconst (v := 0) hx hb dX12_sinks_10 (by decide) ?_
    refine lv_bipush (v := 99) hx hb dX12_sinks_11 (by decide) ?_
    obtain ⟨r6, S5, hc7, h⟩ := sy_c_e h
    refine sy_si (rest := []) fx hA X hl.1 (c_Model_in l hc7) cv_Model_in wm_211 ⟨Nat.le_of_ble_eq_true rfl, Nat.le_of_ble_eq_true rfl, Nat.le_refl _, Nat.le_refl _⟩ rfl rfl (Nat.le_of_ble_eq_true rfl) dX12_sinks_13 (fun H locs X => ?_)
    refine lv_if_ne (tgt := 22) hx hb dX12_sinks_16 (by decide) (fun c8 => ?_) (fun c8 => ?_)
    · have h := sy_f c8 h
      refine lv_aload_n hx hb dX12_sinks_22 rfl (lv_at hl 0 rfl) ?_
      obtain ⟨r10, S9, hc11, h⟩ := sy_c_e h
      refine sy_vi (rest := []) fx hA X hl.1 (sy_OModel_o ht) (sy_en11 (sy_OModel_o ht).2) rfl (c_Model_isHere l ht hc11) cv_Model_isHere wm_531 ⟨Nat.le_of_ble_eq_true rfl, Nat.le_of_ble_eq_true rfl, Nat.le_refl _, Nat.le_refl _⟩ rfl rfl (Nat.le_of_ble_eq_true rfl) dX12_sinks_23 (fun H locs X => ?_)
      refine lv_if_ne (tgt := 32) hx hb dX12_sinks_26 (by decide) (fun c12 => ?_) (fun c12 => ?_)
      · have h := sy_f c12 h
        refine lv_iconst (v := 0) hx hb dX12_sinks_32 (by decide) ?_
        refine lv_istore_n (lv' := [(3, .int 0), (0, .ref (sy_ad E 392)), (1, .int p0), (2, .int p1)]) hx hb dX12_sinks_33 rfl hl (by decide) rfl (fun ls hl => ?_)
        refine lv_iconst (v := 0) hx hb dX12_sinks_34 (by decide) ?_
        refine lv_istore (lv' := [(4, .int 0), (3, .int 0), (0, .ref (sy_ad E 392)), (1, .int p0), (2, .int p1)]) hx hb dX12_sinks_35 hl (by decide) rfl (fun ls hl => ?_)
        exact L_37 sy_F p0 p1 0 0 S9 _ _ _ X (lv_sub hl [2, 3, 4, 1, 0] rfl) h
      · have h := sy_t c12 h
        refine lv_ldc (v := (-1000000003)) hx hb hown (hts _ wm_530) dX12_sinks_29 ?_
        exact sy_iret fx X hr hlk h dX12_sinks_31
    · have h := sy_t c8 h
      refine lv_ldc (v := (-1000000002)) hx hb hown (hts _ wm_208) dX12_sinks_19 ?_
      exact sy_iret fx X hr hlk h dX12_sinks_21
def m_Model_sons_J49 (kk15 : Int32 → Int32 → Int32 → sy_St → sy_R) (y1 : Int32) (y2 : Int32) (y3 : Int32) (y4 : Int32) (S : sy_St) : sy_R := if y4 = y1 then (sy_c (m_Model_owesOf y3 S) fun r15 S14 => sy_b (y2 + r15 : Int32) fun x17 => sy_b (y3 + 1 : Int32) fun x18 => kk15 y1 x17 x18 S14) else (sy_b (y2 + 0 : Int32) fun x12 => sy_b (y3 + 1 : Int32) fun x13 => kk15 y1 x12 x13 S)
def m_Model_sons_B26 (kk15 : Int32 → Int32 → Int32 → sy_St → sy_R) (kk26 : Int32 → Int32 → Int32 → Int32 → sy_St → sy_R) (y1 : Int32) (y2 : Int32) (y3 : Int32) (y4 : Int32) (S : sy_St) : sy_R := if y4 = (-1) then (m_Model_sons_J49 kk15 y1 y2 y3 y4 S) else (if y4 = y1 then (m_Model_sons_J49 kk15 y1 y2 y3 y4 S) else (sy_c (m_Model_fatherOf y4 S) fun r9 S8 => kk26 y1 y2 y3 r9 S8))
def m_Model_sons_B15 (kk15 : Int32 → Int32 → Int32 → sy_St → sy_R) (y1 : Int32) (y2 : Int32) (y3 : Int32) (S : sy_St) : sy_R := if (S 392 19) ≤ y3 then (some (y2, S)) else (sy_fix (fun _ _ _ _ _ => none) (m_Model_sons_B26 kk15) sy_F y1 y2 y3 y3 S)
def m_Model_sons (p0 : Int32) (S : sy_St) : sy_R := sy_c (m_Model_isOne p0 S) fun r2 S1 => if r2 = 0 then (some ((-1000000001), S1)) else (sy_fix (fun _ _ _ _ => none) (m_Model_sons_B15) sy_F p0 0 0 S1)
theorem cv_Model_sons : sy_cV RX12 yX12_sons cX12_sons 5 (some .int) 1 := ⟨wm_903, wm_904, wm_5, wm_905, by decide +kernel⟩
set_option maxRecDepth 100000 in
set_option maxHeartbeats 40000000 in
theorem c_Model_sons (l : Launch) {E : sy_ET} (ht : sy_OModel E) {p0 : Int32} {S S' : sy_St} {r : Int32} (h : m_Model_sons p0 S = some (r, S')) : sy_MI l yX12_sons cX12_sons 5 (some .int) 2 43 [.ref (sy_ad E 392), .int p0] E S r S' := by
  refine sy_MI_of RX12 pn_12 rfl (Nat.le_of_ble_eq_true rfl) (fun p e s m args below meth c A ls fx hr hlk hA X hl => ?_)
  have hx := fx.1
  have hb := fx.2.1
  have hown := fx.2.2.2.1
  have hts := fx.2.2.2.2
  have hl : lv_has ls 5 [(0, .ref (sy_ad E 392)), (1, .int p0)] := hl
  have L_15 : ∀ (n15 : Nat) (y1 y2 y3 : Int32) (S : sy_St) (H : Heap) (locs : List Loc) (ls : Array Slot), sy_Wd E A s S H locs → lv_has ls 5 [(0, .ref (sy_ad E 392)), (1, .int y1), (2, .int y2), (3, .int y3)] → sy_fix (fun _ _ _ _ => none) (m_Model_sons_B15) n15 y1 y2 y3 S = some (r, S') → W p l e (sy_rm 2 43) s m args below meth c H locs 0 0 (MQ below (sy_Qi E A r S') args s 0 0 A) (F0 m 15 ls []) := by
    intro n15
    induction n15 with
    | zero => intro y1 y2 y3 S H locs ls X hl h; have h9 : (none : sy_R) = some (r, S') := h; cases h9
    | succ n15 ih15 =>
      have J_49 : ∀ (y1 y2 y3 y4 : Int32) (S : sy_St) (H : Heap) (locs : List Loc) (ls : Array Slot), sy_Wd E A s S H locs → lv_has ls 5 [(0, .ref (sy_ad E 392)), (1, .int y1), (2, .int y2), (3, .int y3), (4, .int y4)] → m_Model_sons_J49 (sy_fix (fun _ _ _ _ => none) (m_Model_sons_B15) n15) y1 y2 y3 y4 S = some (r, S') → W p l e (sy_rm 2 43) s m args below meth c H locs 0 0 (MQ below (sy_Qi E A r S') args s 0 0 A) (F0 m 49 ls []) := by
        intro y1 y2 y3 y4 S H locs ls X hl h
        unfold m_Model_sons_J49 at h
        refine lv_iload_n hx hb dX12_sons_49 rfl (lv_at hl 2 rfl) ?_
        refine lv_iload hx hb dX12_sons_50 (lv_at hl 4 rfl) ?_
        refine lv_iload_n hx hb dX12_sons_52 rfl (lv_at hl 1 rfl) ?_
        refine lv_icmp_ne (tgt := 64) hx hb dX12_sons_53 (by decide) (fun c11 => ?_) (fun c11 => ?_)
        · have h := sy_f c11 h
          refine lv_iconst (v := 0) hx hb dX12_sons_64 (by decide) ?_
          refine lv_iadd hx hb dX12_sons_65 ?_
          obtain ⟨x12, hx12, h⟩ := sy_b_e h
          refine sy_top hx12 ?_
          refine lv_istore_n (lv' := [(2, .int x12), (0, .ref (sy_ad E 392)), (1, .int y1), (3, .int y3), (4, .int y4)]) hx hb dX12_sons_66 rfl hl (by decide) rfl (fun ls hl => ?_)
          obtain ⟨x13, hx13, h⟩ := sy_b_e h
          refine lv_iinc (v := x13) (lv' := [(3, .int x13), (2, .int x12), (0, .ref (sy_ad E 392)), (1, .int y1), (4, .int y4)]) hx hb dX12_sons_67 hl (k := 3) rfl (by rw [hx13]; rfl) (by decide) rfl (fun ls hl => ?_)
          refine lv_goto (tgt := 15) hx hb dX12_sons_70 (by decide) ?_
          exact ih15 y1 x12 x13 S _ _ _ X (lv_sub hl [2, 3, 1, 0] rfl) h
        · have h := sy_t c11 h
          refine lv_aload_n hx hb dX12_sons_56 rfl (lv_at hl 0 rfl) ?_
          refine lv_iload_n hx hb dX12_sons_57 rfl (lv_at hl 3 rfl) ?_
          obtain ⟨r15, S14, hc16, h⟩ := sy_c_e h
          refine sy_vi (rest := [.int y2]) fx hA X hl.1 (sy_OModel_o ht) (sy_en11 (sy_OModel_o ht).2) rfl (c_Model_owesOf l ht hc16) cv_Model_owesOf wm_870 ⟨Nat.le_of_ble_eq_true rfl, Nat.le_of_ble_eq_true rfl, Nat.le_refl _, Nat.le_refl _⟩ rfl rfl (Nat.le_of_ble_eq_true rfl) dX12_sons_58 (fun H locs X => ?_)
          refine lv_goto (tgt := 65) hx hb dX12_sons_61 (by decide) ?_
          refine lv_iadd hx hb dX12_sons_65 ?_
          obtain ⟨x17, hx17, h⟩ := sy_b_e h
          refine sy_top hx17 ?_
          refine lv_istore_n (lv' := [(2, .int x17), (0, .ref (sy_ad E 392)), (1, .int y1), (3, .int y3), (4, .int y4)]) hx hb dX12_sons_66 rfl hl (by decide) rfl (fun ls hl => ?_)
          obtain ⟨x18, hx18, h⟩ := sy_b_e h
          refine lv_iinc (v := x18) (lv' := [(3, .int x18), (2, .int x17), (0, .ref (sy_ad E 392)), (1, .int y1), (4, .int y4)]) hx hb dX12_sons_67 hl (k := 3) rfl (by rw [hx18]; rfl) (by decide) rfl (fun ls hl => ?_)
          refine lv_goto (tgt := 15) hx hb dX12_sons_70 (by decide) ?_
          exact ih15 y1 x17 x18 S14 _ _ _ X (lv_sub hl [2, 3, 1, 0] rfl) h
      have L_26 : ∀ (n26 : Nat) (y1 y2 y3 y4 : Int32) (S : sy_St) (H : Heap) (locs : List Loc) (ls : Array Slot), sy_Wd E A s S H locs → lv_has ls 5 [(0, .ref (sy_ad E 392)), (1, .int y1), (2, .int y2), (3, .int y3), (4, .int y4)] → sy_fix (fun _ _ _ _ _ => none) (m_Model_sons_B26 (sy_fix (fun _ _ _ _ => none) (m_Model_sons_B15) n15)) n26 y1 y2 y3 y4 S = some (r, S') → W p l e (sy_rm 2 43) s m args below meth c H locs 0 0 (MQ below (sy_Qi E A r S') args s 0 0 A) (F0 m 26 ls []) := by
        intro n26
        induction n26 with
        | zero => intro y1 y2 y3 y4 S H locs ls X hl h; have h9 : (none : sy_R) = some (r, S') := h; cases h9
        | succ n26 ih26 =>
          intro y1 y2 y3 y4 S H locs ls X hl h
          have h : m_Model_sons_B26 (sy_fix (fun _ _ _ _ => none) (m_Model_sons_B15) n15) (sy_fix (fun _ _ _ _ _ => none) (m_Model_sons_B26 (sy_fix (fun _ _ _ _ => none) (m_Model_sons_B15) n15)) n26) y1 y2 y3 y4 S = some (r, S') := h
          unfold m_Model_sons_B26 at h
          refine lv_iload hx hb dX12_sons_26 (lv_at hl 4 rfl) ?_
          refine lv_iconst (v := (-1)) hx hb dX12_sons_28 (by decide) ?_
          refine lv_icmp_eq (tgt := 49) hx hb dX12_sons_29 (by decide) (fun c6 => ?_) (fun c6 => ?_)
          · have h := sy_t c6 h
            exact J_49 y1 y2 y3 y4 S _ _ _ X (lv_sub hl [0, 1, 2, 3, 4] rfl) h
          · have h := sy_f c6 h
            refine lv_iload hx hb dX12_sons_32 (lv_at hl 4 rfl) ?_
            refine lv_iload_n hx hb dX12_sons_34 rfl (lv_at hl 1 rfl) ?_
            refine lv_icmp_eq (tgt := 49) hx hb dX12_sons_35 (by decide) (fun c7 => ?_) (fun c7 => ?_)
            · have h := sy_t c7 h
              exact J_49 y1 y2 y3 y4 S _ _ _ X (lv_sub hl [0, 1, 2, 3, 4] rfl) h
            · have h := sy_f c7 h
              refine lv_aload_n hx hb dX12_sons_38 rfl (lv_at hl 0 rfl) ?_
              refine lv_iload hx hb dX12_sons_39 (lv_at hl 4 rfl) ?_
              obtain ⟨r9, S8, hc10, h⟩ := sy_c_e h
              refine sy_vi (rest := []) fx hA X hl.1 (sy_OModel_o ht) (sy_en11 (sy_OModel_o ht).2) rfl (c_Model_fatherOf l ht hc10) cv_Model_fatherOf wm_606 ⟨Nat.le_of_ble_eq_true rfl, Nat.le_of_ble_eq_true rfl, Nat.le_refl _, Nat.le_refl _⟩ rfl rfl (Nat.le_of_ble_eq_true rfl) dX12_sons_41 (fun H locs X => ?_)
              refine lv_istore (lv' := [(4, .int r9), (0, .ref (sy_ad E 392)), (1, .int y1), (2, .int y2), (3, .int y3)]) hx hb dX12_sons_44 hl (by decide) rfl (fun ls hl => ?_)
              refine lv_goto (tgt := 26) hx hb dX12_sons_46 (by decide) ?_
              exact ih26 y1 y2 y3 r9 S8 _ _ _ X (lv_sub hl [1, 2, 3, 4, 0] rfl) h
      intro y1 y2 y3 S H locs ls X hl h
      have h : m_Model_sons_B15 (sy_fix (fun _ _ _ _ => none) (m_Model_sons_B15) n15) y1 y2 y3 S = some (r, S') := h
      unfold m_Model_sons_B15 at h
      refine lv_iload_n hx hb dX12_sons_15 rfl (lv_at hl 3 rfl) ?_
      refine lv_aload_n hx hb dX12_sons_16 rfl (lv_at hl 0 rfl) ?_
      refine sy_g11 fx X (sy_OModel_o ht) 19 (by decide) wm_188 (fun _ h9 => h9) rfl dX12_sons_17 ?_
      refine lv_icmp_ge (tgt := 73) hx hb dX12_sons_20 (by decide) (fun c5 => ?_) (fun c5 => ?_)
      · have h := sy_t c5 h
        refine lv_iload_n hx hb dX12_sons_73 rfl (lv_at hl 2 rfl) ?_
        exact sy_iret fx X hr hlk h dX12_sons_74
      · have h := sy_f c5 h
        refine lv_iload_n hx hb dX12_sons_23 rfl (lv_at hl 3 rfl) ?_
        refine lv_istore (lv' := [(4, .int y3), (0, .ref (sy_ad E 392)), (1, .int y1), (2, .int y2), (3, .int y3)]) hx hb dX12_sons_24 hl (by decide) rfl (fun ls hl => ?_)
        exact L_26 sy_F y1 y2 y3 y3 S _ _ _ X (lv_sub hl [1, 2, 3, 4, 0] rfl) h
  unfold m_Model_sons at h
  refine lv_aload_n hx hb dX12_sons_0 rfl (lv_at hl 0 rfl) ?_
  refine lv_iload_n hx hb dX12_sons_1 rfl (lv_at hl 1 rfl) ?_
  obtain ⟨r2, S1, hc3, h⟩ := sy_c_e h
  refine sy_vi (rest := []) fx hA X hl.1 (sy_OModel_o ht) (sy_en11 (sy_OModel_o ht).2) rfl (c_Model_isOne l ht hc3) cv_Model_isOne wm_458 ⟨Nat.le_of_ble_eq_true rfl, Nat.le_of_ble_eq_true rfl, Nat.le_refl _, Nat.le_refl _⟩ rfl rfl (Nat.le_of_ble_eq_true rfl) dX12_sons_2 (fun H locs X => ?_)
  refine lv_if_ne (tgt := 11) hx hb dX12_sons_5 (by decide) (fun c4 => ?_) (fun c4 => ?_)
  · have h := sy_f c4 h
    refine lv_iconst (v := 0) hx hb dX12_sons_11 (by decide) ?_
    refine lv_istore_n (lv' := [(2, .int 0), (0, .ref (sy_ad E 392)), (1, .int p0)]) hx hb dX12_sons_12 rfl hl (by decide) rfl (fun ls hl => ?_)
    refine lv_iconst (v := 0) hx hb dX12_sons_13 (by decide) ?_
    refine lv_istore_n (lv' := [(3, .int 0), (2, .int 0), (0, .ref (sy_ad E 392)), (1, .int p0)]) hx hb dX12_sons_14 rfl hl (by decide) rfl (fun ls hl => ?_)
    exact L_15 sy_F p0 0 0 S1 _ _ _ X (lv_sub hl [2, 3, 1, 0] rfl) h
  · have h := sy_t c4 h
    refine lv_ldc (v := (-1000000001)) hx hb hown (hts _ wm_457) dX12_sons_8 ?_
    exact sy_iret fx X hr hlk h dX12_sons_10
def m_Model_sure_B60 (kk23 : Int32 → Int32 → Int32 → sy_St → sy_R) (kk60 : Int32 → Int32 → Int32 → Int32 → Int32 → sy_St → sy_R) (y1 : Int32) (y2 : Int32) (y3 : Int32) (y4 : Int32) (y5 : Int32) (S : sy_St) : sy_R := if (S 392 28) ≤ y5 then (sy_b (y1 &&& y4 : Int32) fun x20 => sy_b (y2 + 1 : Int32) fun x21 => sy_b (y3 + 1 : Int32) fun x22 => kk23 x20 x21 x22 S) else (sy_g (sy_in y5 5) <| sy_b (y4 ||| (1 <<< ((S 407 y5.toNatClampNeg) &&& 31)) : Int32) fun x24 => sy_b (y5 + 1 : Int32) fun x25 => kk60 y1 y2 y3 x24 x25 S)
def m_Model_sure_B23 (kk23 : Int32 → Int32 → Int32 → sy_St → sy_R) (y1 : Int32) (y2 : Int32) (y3 : Int32) (S : sy_St) : sy_R := sy_c (m_Model_power (S 392 19) (S 392 28) S) fun r7 S6 => if r7 ≤ y3 then (if y2 = 0 then (some (0, S6)) else (some (y1, S6))) else (sy_c (m_Model_lay y3 (S6 392 28) S6) fun r12 S11 => sy_c (m_Model_isAsSeen S11) fun r15 S14 => if r15 = 0 then (sy_b (y3 + 1 : Int32) fun x18 => kk23 y1 y2 x18 S14) else (sy_fix (fun _ _ _ _ _ _ => none) (m_Model_sure_B60 kk23) sy_F y1 y2 y3 0 0 S14))
def m_Model_sure (S : sy_St) : sy_R := sy_c (m_Model_isHere S) fun r2 S1 => if r2 = 0 then (some ((-1000000003), S1)) else (sy_b ((1 <<< ((S1 392 19) &&& 31)) - 1 : Int32) fun x5 => sy_fix (fun _ _ _ _ => none) (m_Model_sure_B23) sy_F x5 0 0 S1)
theorem cv_Model_sure : sy_cV RX12 yX12_sure cX12_sure 6 (some .int) 0 := ⟨wm_1012, wm_1013, wm_5, wm_1014, by decide +kernel⟩
set_option maxRecDepth 100000 in
set_option maxHeartbeats 40000000 in
theorem c_Model_sure (l : Launch) {E : sy_ET} (ht : sy_OModel E) {S S' : sy_St} {r : Int32} (h : m_Model_sure S = some (r, S')) : sy_MI l yX12_sure cX12_sure 6 (some .int) 5 113 [.ref (sy_ad E 392)] E S r S' := by
  refine sy_MI_of RX12 pn_12 rfl (Nat.le_of_ble_eq_true rfl) (fun p e s m args below meth c A ls fx hr hlk hA X hl => ?_)
  have hx := fx.1
  have hb := fx.2.1
  have hown := fx.2.2.2.1
  have hts := fx.2.2.2.2
  have hl : lv_has ls 6 [(0, .ref (sy_ad E 392))] := hl
  have L_23 : ∀ (n23 : Nat) (y1 y2 y3 : Int32) (S : sy_St) (H : Heap) (locs : List Loc) (ls : Array Slot), sy_Wd E A s S H locs → lv_has ls 6 [(0, .ref (sy_ad E 392)), (1, .int y1), (2, .int y2), (3, .int y3)] → sy_fix (fun _ _ _ _ => none) (m_Model_sure_B23) n23 y1 y2 y3 S = some (r, S') → W p l e (sy_rm 5 113) s m args below meth c H locs 0 0 (MQ below (sy_Qi E A r S') args s 0 0 A) (F0 m 23 ls []) := by
    intro n23
    induction n23 with
    | zero => intro y1 y2 y3 S H locs ls X hl h; have h9 : (none : sy_R) = some (r, S') := h; cases h9
    | succ n23 ih23 =>
      have L_60 : ∀ (n60 : Nat) (y1 y2 y3 y4 y5 : Int32) (S : sy_St) (H : Heap) (locs : List Loc) (ls : Array Slot), sy_Wd E A s S H locs → lv_has ls 6 [(0, .ref (sy_ad E 392)), (1, .int y1), (2, .int y2), (3, .int y3), (4, .int y4), (5, .int y5)] → sy_fix (fun _ _ _ _ _ _ => none) (m_Model_sure_B60 (sy_fix (fun _ _ _ _ => none) (m_Model_sure_B23) n23)) n60 y1 y2 y3 y4 y5 S = some (r, S') → W p l e (sy_rm 5 113) s m args below meth c H locs 0 0 (MQ below (sy_Qi E A r S') args s 0 0 A) (F0 m 60 ls []) := by
        intro n60
        induction n60 with
        | zero => intro y1 y2 y3 y4 y5 S H locs ls X hl h; have h9 : (none : sy_R) = some (r, S') := h; cases h9
        | succ n60 ih60 =>
          intro y1 y2 y3 y4 y5 S H locs ls X hl h
          have h : m_Model_sure_B60 (sy_fix (fun _ _ _ _ => none) (m_Model_sure_B23) n23) (sy_fix (fun _ _ _ _ _ _ => none) (m_Model_sure_B60 (sy_fix (fun _ _ _ _ => none) (m_Model_sure_B23) n23)) n60) y1 y2 y3 y4 y5 S = some (r, S') := h
          unfold m_Model_sure_B60 at h
          refine lv_iload hx hb dX12_sure_60 (lv_at hl 5 rfl) ?_
          refine lv_aload_n hx hb dX12_sure_62 rfl (lv_at hl 0 rfl) ?_
          refine sy_g11 fx X (sy_OModel_o ht) 28 (by decide) wm_190 (fun _ h9 => h9) rfl dX12_sure_63 ?_
          refine lv_icmp_ge (tgt := 89) hx hb dX12_sure_66 (by decide) (fun c19 => ?_) (fun c19 => ?_)
          · have h := sy_t c19 h
            refine lv_iload_n hx hb dX12_sure_89 rfl (lv_at hl 1 rfl) ?_
            refine lv_iload hx hb dX12_sure_90 (lv_at hl 4 rfl) ?_
            refine lv_iand hx hb dX12_sure_92 ?_
            obtain ⟨x20, hx20, h⟩ := sy_b_e h
            refine sy_top hx20 ?_
            refine lv_istore_n (lv' := [(1, .int x20), (0, .ref (sy_ad E 392)), (2, .int y2), (3, .int y3), (4, .int y4), (5, .int y5)]) hx hb dX12_sure_93 rfl hl (by decide) rfl (fun ls hl => ?_)
            obtain ⟨x21, hx21, h⟩ := sy_b_e h
            refine lv_iinc (v := x21) (lv' := [(2, .int x21), (1, .int x20), (0, .ref (sy_ad E 392)), (3, .int y3), (4, .int y4), (5, .int y5)]) hx hb dX12_sure_94 hl (k := 2) rfl (by rw [hx21]; rfl) (by decide) rfl (fun ls hl => ?_)
            obtain ⟨x22, hx22, h⟩ := sy_b_e h
            refine lv_iinc (v := x22) (lv' := [(3, .int x22), (2, .int x21), (1, .int x20), (0, .ref (sy_ad E 392)), (4, .int y4), (5, .int y5)]) hx hb dX12_sure_97 hl (k := 3) rfl (by rw [hx22]; rfl) (by decide) rfl (fun ls hl => ?_)
            refine lv_goto (tgt := 23) hx hb dX12_sure_100 (by decide) ?_
            exact ih23 x20 x21 x22 S _ _ _ X (lv_sub hl [3, 2, 1, 0] rfl) h
          · have h := sy_f c19 h
            refine lv_iload hx hb dX12_sure_69 (lv_at hl 4 rfl) ?_
            refine lv_iconst (v := 1) hx hb dX12_sure_71 (by decide) ?_
            refine lv_aload_n hx hb dX12_sure_72 rfl (lv_at hl 0 rfl) ?_
            refine sy_q11 fx X (sy_OModel_o ht) 32 (by decide) wm_181 (fun _ h9 => h9) rfl (sy_OModel_r32 ht) dX12_sure_73 ?_
            refine lv_iload hx hb dX12_sure_76 (lv_at hl 5 rfl) ?_
            obtain ⟨g23, h⟩ := sy_g_e h
            refine sy_iald fx X (sy_OModel_a32 ht) g23 dX12_sure_78 ?_
            refine lv_ishl hx hb dX12_sure_79 ?_
            refine lv_ior hx hb dX12_sure_80 ?_
            obtain ⟨x24, hx24, h⟩ := sy_b_e h
            refine sy_top hx24 ?_
            refine lv_istore (lv' := [(4, .int x24), (0, .ref (sy_ad E 392)), (1, .int y1), (2, .int y2), (3, .int y3), (5, .int y5)]) hx hb dX12_sure_81 hl (by decide) rfl (fun ls hl => ?_)
            obtain ⟨x25, hx25, h⟩ := sy_b_e h
            refine lv_iinc (v := x25) (lv' := [(5, .int x25), (4, .int x24), (0, .ref (sy_ad E 392)), (1, .int y1), (2, .int y2), (3, .int y3)]) hx hb dX12_sure_83 hl (k := 5) rfl (by rw [hx25]; rfl) (by decide) rfl (fun ls hl => ?_)
            refine lv_goto (tgt := 60) hx hb dX12_sure_86 (by decide) ?_
            exact ih60 y1 y2 y3 x24 x25 S _ _ _ X (lv_sub hl [2, 3, 4, 5, 1, 0] rfl) h
      intro y1 y2 y3 S H locs ls X hl h
      have h : m_Model_sure_B23 (sy_fix (fun _ _ _ _ => none) (m_Model_sure_B23) n23) y1 y2 y3 S = some (r, S') := h
      unfold m_Model_sure_B23 at h
      refine lv_iload_n hx hb dX12_sure_23 rfl (lv_at hl 3 rfl) ?_
      refine lv_aload_n hx hb dX12_sure_24 rfl (lv_at hl 0 rfl) ?_
      refine sy_g11 fx X (sy_OModel_o ht) 19 (by decide) wm_188 (fun _ h9 => h9) rfl dX12_sure_25 ?_
      refine lv_aload_n hx hb dX12_sure_28 rfl (lv_at hl 0 rfl) ?_
      refine sy_g11 fx X (sy_OModel_o ht) 28 (by decide) wm_190 (fun _ h9 => h9) rfl dX12_sure_29 ?_
      obtain ⟨r7, S6, hc8, h⟩ := sy_c_e h
      refine sy_si (rest := [.int y3]) fx hA X hl.1 (c_Model_power l hc8) cv_Model_power wm_767 ⟨Nat.le_of_ble_eq_true rfl, Nat.le_of_ble_eq_true rfl, Nat.le_refl _, Nat.le_refl _⟩ rfl rfl (Nat.le_of_ble_eq_true rfl) dX12_sure_32 (fun H locs X => ?_)
      refine lv_icmp_ge (tgt := 103) hx hb dX12_sure_35 (by decide) (fun c9 => ?_) (fun c9 => ?_)
      · have h := sy_t c9 h
        refine lv_iload_n hx hb dX12_sure_103 rfl (lv_at hl 2 rfl) ?_
        refine lv_if_ne (tgt := 111) hx hb dX12_sure_104 (by decide) (fun c10 => ?_) (fun c10 => ?_)
        · have h := sy_f c10 h
          refine lv_iload_n hx hb dX12_sure_111 rfl (lv_at hl 1 rfl) ?_
          exact sy_iret fx X hr hlk h dX12_sure_112
        · have h := sy_t c10 h
          refine lv_iconst (v := 0) hx hb dX12_sure_107 (by decide) ?_
          refine lv_goto (tgt := 112) hx hb dX12_sure_108 (by decide) ?_
          exact sy_iret fx X hr hlk h dX12_sure_112
      · have h := sy_f c9 h
        refine lv_aload_n hx hb dX12_sure_38 rfl (lv_at hl 0 rfl) ?_
        refine lv_iload_n hx hb dX12_sure_39 rfl (lv_at hl 3 rfl) ?_
        refine lv_aload_n hx hb dX12_sure_40 rfl (lv_at hl 0 rfl) ?_
        refine sy_g11 fx X (sy_OModel_o ht) 28 (by decide) wm_190 (fun _ h9 => h9) rfl dX12_sure_41 ?_
        obtain ⟨r12, S11, hc13, h⟩ := sy_c_e h
        refine sy_vv (rest := []) fx hA X hl.1 (sy_OModel_o ht) (sy_en11 (sy_OModel_o ht).2) rfl (c_Model_lay l ht hc13) cv_Model_lay wm_770 ⟨Nat.le_of_ble_eq_true rfl, Nat.le_of_ble_eq_true rfl, Nat.le_refl _, Nat.le_refl _⟩ rfl rfl (Nat.le_of_ble_eq_true rfl) dX12_sure_44 (fun H locs X => ?_)
        refine lv_aload_n hx hb dX12_sure_47 rfl (lv_at hl 0 rfl) ?_
        obtain ⟨r15, S14, hc16, h⟩ := sy_c_e h
        refine sy_vi (rest := []) fx hA X hl.1 (sy_OModel_o ht) (sy_en11 (sy_OModel_o ht).2) rfl (c_Model_isAsSeen l ht hc16) cv_Model_isAsSeen wm_1002 ⟨Nat.le_of_ble_eq_true rfl, Nat.le_of_ble_eq_true rfl, Nat.le_refl _, Nat.le_refl _⟩ rfl rfl (Nat.le_of_ble_eq_true rfl) dX12_sure_48 (fun H locs X => ?_)
        refine lv_if_eq (tgt := 97) hx hb dX12_sure_51 (by decide) (fun c17 => ?_) (fun c17 => ?_)
        · have h := sy_t c17 h
          obtain ⟨x18, hx18, h⟩ := sy_b_e h
          refine lv_iinc (v := x18) (lv' := [(3, .int x18), (0, .ref (sy_ad E 392)), (1, .int y1), (2, .int y2)]) hx hb dX12_sure_97 hl (k := 3) rfl (by rw [hx18]; rfl) (by decide) rfl (fun ls hl => ?_)
          refine lv_goto (tgt := 23) hx hb dX12_sure_100 (by decide) ?_
          exact ih23 y1 y2 x18 S14 _ _ _ X (lv_sub hl [1, 2, 3, 0] rfl) h
        · have h := sy_f c17 h
          refine lv_iconst (v := 0) hx hb dX12_sure_54 (by decide) ?_
          refine lv_istore (lv' := [(4, .int 0), (0, .ref (sy_ad E 392)), (1, .int y1), (2, .int y2), (3, .int y3)]) hx hb dX12_sure_55 hl (by decide) rfl (fun ls hl => ?_)
          refine lv_iconst (v := 0) hx hb dX12_sure_57 (by decide) ?_
          refine lv_istore (lv' := [(5, .int 0), (4, .int 0), (0, .ref (sy_ad E 392)), (1, .int y1), (2, .int y2), (3, .int y3)]) hx hb dX12_sure_58 hl (by decide) rfl (fun ls hl => ?_)
          exact L_60 sy_F y1 y2 y3 0 0 S14 _ _ _ X (lv_sub hl [2, 3, 4, 5, 1, 0] rfl) h
  unfold m_Model_sure at h
  refine lv_aload_n hx hb dX12_sure_0 rfl (lv_at hl 0 rfl) ?_
  obtain ⟨r2, S1, hc3, h⟩ := sy_c_e h
  refine sy_vi (rest := []) fx hA X hl.1 (sy_OModel_o ht) (sy_en11 (sy_OModel_o ht).2) rfl (c_Model_isHere l ht hc3) cv_Model_isHere wm_531 ⟨Nat.le_of_ble_eq_true rfl, Nat.le_of_ble_eq_true rfl, Nat.le_refl _, Nat.le_refl _⟩ rfl rfl (Nat.le_of_ble_eq_true rfl) dX12_sure_1 (fun H locs X => ?_)
  refine lv_if_ne (tgt := 10) hx hb dX12_sure_4 (by decide) (fun c4 => ?_) (fun c4 => ?_)
  · have h := sy_f c4 h
    refine lv_iconst (v := 1) hx hb dX12_sure_10 (by decide) ?_
    refine lv_aload_n hx hb dX12_sure_11 rfl (lv_at hl 0 rfl) ?_
    refine sy_g11 fx X (sy_OModel_o ht) 19 (by decide) wm_188 (fun _ h9 => h9) rfl dX12_sure_12 ?_
    refine lv_ishl hx hb dX12_sure_15 ?_
    refine lv_iconst (v := 1) hx hb dX12_sure_16 (by decide) ?_
    refine lv_isub hx hb dX12_sure_17 ?_
    obtain ⟨x5, hx5, h⟩ := sy_b_e h
    refine sy_top hx5 ?_
    refine lv_istore_n (lv' := [(1, .int x5), (0, .ref (sy_ad E 392))]) hx hb dX12_sure_18 rfl hl (by decide) rfl (fun ls hl => ?_)
    refine lv_iconst (v := 0) hx hb dX12_sure_19 (by decide) ?_
    refine lv_istore_n (lv' := [(2, .int 0), (1, .int x5), (0, .ref (sy_ad E 392))]) hx hb dX12_sure_20 rfl hl (by decide) rfl (fun ls hl => ?_)
    refine lv_iconst (v := 0) hx hb dX12_sure_21 (by decide) ?_
    refine lv_istore_n (lv' := [(3, .int 0), (2, .int 0), (1, .int x5), (0, .ref (sy_ad E 392))]) hx hb dX12_sure_22 rfl hl (by decide) rfl (fun ls hl => ?_)
    exact L_23 sy_F x5 0 0 S1 _ _ _ X (lv_sub hl [3, 2, 1, 0] rfl) h
  · have h := sy_t c4 h
    refine lv_ldc (v := (-1000000003)) hx hb hown (hts _ wm_530) dX12_sure_7 ?_
    exact sy_iret fx X hr hlk h dX12_sure_9
def m_Model_take (p0 : Int32) (S : sy_St) : sy_R := sy_c (m_Model_isOne p0 S) fun r2 S1 => if r2 = 0 then (some ((-1000000001), S1)) else (sy_c (m_Model_isSonOfWhoHolds p0 S1) fun r6 S5 => if r6 = 0 then (some ((-1000000003), S5)) else (sy_c (m_Model_takesIt p0 S5) fun r10 S9 => sy_c (m_Model_fatherOf p0 S9) fun r13 S12 => some (r13, S12)))
theorem cv_Model_take : sy_cV RX12 yX12_take cX12_take 2 (some .int) 1 := ⟨wm_599, wm_600, wm_5, wm_601, by decide +kernel⟩
set_option maxRecDepth 100000 in
set_option maxHeartbeats 40000000 in
theorem c_Model_take (l : Launch) {E : sy_ET} (ht : sy_OModel E) {p0 : Int32} {S S' : sy_St} {r : Int32} (h : m_Model_take p0 S = some (r, S')) : sy_MI l yX12_take cX12_take 2 (some .int) 2 43 [.ref (sy_ad E 392), .int p0] E S r S' := by
  refine sy_MI_of RX12 pn_12 rfl (Nat.le_of_ble_eq_true rfl) (fun p e s m args below meth c A ls fx hr hlk hA X hl => ?_)
  have hx := fx.1
  have hb := fx.2.1
  have hown := fx.2.2.2.1
  have hts := fx.2.2.2.2
  have hl : lv_has ls 2 [(0, .ref (sy_ad E 392)), (1, .int p0)] := hl
  unfold m_Model_take at h
  refine lv_aload_n hx hb dX12_take_0 rfl (lv_at hl 0 rfl) ?_
  refine lv_iload_n hx hb dX12_take_1 rfl (lv_at hl 1 rfl) ?_
  obtain ⟨r2, S1, hc3, h⟩ := sy_c_e h
  refine sy_vi (rest := []) fx hA X hl.1 (sy_OModel_o ht) (sy_en11 (sy_OModel_o ht).2) rfl (c_Model_isOne l ht hc3) cv_Model_isOne wm_458 ⟨Nat.le_of_ble_eq_true rfl, Nat.le_of_ble_eq_true rfl, Nat.le_refl _, Nat.le_refl _⟩ rfl rfl (Nat.le_of_ble_eq_true rfl) dX12_take_2 (fun H locs X => ?_)
  refine lv_if_ne (tgt := 11) hx hb dX12_take_5 (by decide) (fun c4 => ?_) (fun c4 => ?_)
  · have h := sy_f c4 h
    refine lv_aload_n hx hb dX12_take_11 rfl (lv_at hl 0 rfl) ?_
    refine lv_iload_n hx hb dX12_take_12 rfl (lv_at hl 1 rfl) ?_
    obtain ⟨r6, S5, hc7, h⟩ := sy_c_e h
    refine sy_vi (rest := []) fx hA X hl.1 (sy_OModel_o ht) (sy_en11 (sy_OModel_o ht).2) rfl (c_Model_isSonOfWhoHolds l ht hc7) cv_Model_isSonOfWhoHolds wm_602 ⟨Nat.le_of_ble_eq_true rfl, Nat.le_of_ble_eq_true rfl, Nat.le_refl _, Nat.le_refl _⟩ rfl rfl (Nat.le_of_ble_eq_true rfl) dX12_take_13 (fun H locs X => ?_)
    refine lv_if_ne (tgt := 22) hx hb dX12_take_16 (by decide) (fun c8 => ?_) (fun c8 => ?_)
    · have h := sy_f c8 h
      refine lv_aload_n hx hb dX12_take_22 rfl (lv_at hl 0 rfl) ?_
      refine lv_iload_n hx hb dX12_take_23 rfl (lv_at hl 1 rfl) ?_
      obtain ⟨r10, S9, hc11, h⟩ := sy_c_e h
      refine sy_vv (rest := []) fx hA X hl.1 (sy_OModel_o ht) (sy_en11 (sy_OModel_o ht).2) rfl (c_Model_takesIt l ht hc11) cv_Model_takesIt wm_610 ⟨Nat.le_of_ble_eq_true rfl, Nat.le_of_ble_eq_true rfl, Nat.le_refl _, Nat.le_refl _⟩ rfl rfl (Nat.le_of_ble_eq_true rfl) dX12_take_24 (fun H locs X => ?_)
      refine lv_aload_n hx hb dX12_take_27 rfl (lv_at hl 0 rfl) ?_
      refine lv_iload_n hx hb dX12_take_28 rfl (lv_at hl 1 rfl) ?_
      obtain ⟨r13, S12, hc14, h⟩ := sy_c_e h
      refine sy_vi (rest := []) fx hA X hl.1 (sy_OModel_o ht) (sy_en11 (sy_OModel_o ht).2) rfl (c_Model_fatherOf l ht hc14) cv_Model_fatherOf wm_606 ⟨Nat.le_of_ble_eq_true rfl, Nat.le_of_ble_eq_true rfl, Nat.le_refl _, Nat.le_refl _⟩ rfl rfl (Nat.le_of_ble_eq_true rfl) dX12_take_29 (fun H locs X => ?_)
      exact sy_iret fx X hr hlk h dX12_take_32
    · have h := sy_t c8 h
      refine lv_ldc (v := (-1000000003)) hx hb hown (hts _ wm_530) dX12_take_19 ?_
      exact sy_iret fx X hr hlk h dX12_take_21
  · have h := sy_t c4 h
    refine lv_ldc (v := (-1000000001)) hx hb hown (hts _ wm_457) dX12_take_8 ?_
    exact sy_iret fx X hr hlk h dX12_take_10
def m_Model_tear (S : sy_St) : sy_R := sy_b ((S 392 28) + (S 392 30) : Int32) fun x1 => sy_b (sy_up S 392 28 0) fun S2 => sy_b (sy_up S2 392 30 0) fun S3 => some (x1, S3)
theorem cv_Model_tear : sy_cV RX12 yX12_tear cX12_tear 2 (some .int) 0 := ⟨wm_1046, wm_1047, wm_5, wm_1048, by decide +kernel⟩
set_option maxRecDepth 100000 in
set_option maxHeartbeats 40000000 in
theorem c_Model_tear (l : Launch) {E : sy_ET} (ht : sy_OModel E) {S S' : sy_St} {r : Int32} (h : m_Model_tear S = some (r, S')) : sy_MI l yX12_tear cX12_tear 2 (some .int) 0 0 [.ref (sy_ad E 392)] E S r S' := by
  refine sy_MI_of RX12 pn_12 rfl (Nat.le_of_ble_eq_true rfl) (fun p e s m args below meth c A ls fx hr hlk hA X hl => ?_)
  have hx := fx.1
  have hb := fx.2.1
  have hown := fx.2.2.2.1
  have hts := fx.2.2.2.2
  have hl : lv_has ls 2 [(0, .ref (sy_ad E 392))] := hl
  unfold m_Model_tear at h
  refine lv_aload_n hx hb dX12_tear_0 rfl (lv_at hl 0 rfl) ?_
  refine sy_g11 fx X (sy_OModel_o ht) 28 (by decide) wm_190 (fun _ h9 => h9) rfl dX12_tear_1 ?_
  refine lv_aload_n hx hb dX12_tear_4 rfl (lv_at hl 0 rfl) ?_
  refine sy_g11 fx X (sy_OModel_o ht) 30 (by decide) wm_191 (fun _ h9 => h9) rfl dX12_tear_5 ?_
  refine lv_iadd hx hb dX12_tear_8 ?_
  obtain ⟨x1, hx1, h⟩ := sy_b_e h
  refine sy_top hx1 ?_
  refine lv_istore_n (lv' := [(1, .int x1), (0, .ref (sy_ad E 392))]) hx hb dX12_tear_9 rfl hl (by decide) rfl (fun ls hl => ?_)
  refine lv_aload_n hx hb dX12_tear_10 rfl (lv_at hl 1 rfl) ?_
  refine lv_iconst (v := 0) hx hb dX12_tear_11 (by decide) ?_
  obtain ⟨S2, hS2, h⟩ := sy_b_e h
  refine sy_p11 fx X (sy_OModel_o ht) 28 (by decide) wm_190 (fun _ h9 => h9) rfl (ty := .int) (by decide +kernel) rfl rfl hS2 sy_s11_28 dX12_tear_12 (fun H locs X => ?_)
  refine lv_aload_n hx hb dX12_tear_15 rfl (lv_at hl 1 rfl) ?_
  refine lv_iconst (v := 0) hx hb dX12_tear_16 (by decide) ?_
  obtain ⟨S3, hS3, h⟩ := sy_b_e h
  refine sy_p11 fx X (sy_OModel_o ht) 30 (by decide) wm_191 (fun _ h9 => h9) rfl (ty := .int) (by decide +kernel) rfl rfl hS3 sy_s11_30 dX12_tear_17 (fun H locs X => ?_)
  refine lv_iload_n hx hb dX12_tear_20 rfl (lv_at hl 0 rfl) ?_
  exact sy_iret fx X hr hlk h dX12_tear_21
def m_Model_told (p0 : Int32) (S : sy_St) : sy_R := if p0 = 0 then (some (S 392 17, S)) else if p0 = 1 then (some (S 392 19, S)) else if p0 = 2 then (some (S 392 0, S)) else if p0 = 3 then (some (S 400 ((0 : Int32).toNatClampNeg), S)) else if p0 = 4 then (some (S 400 ((1 : Int32).toNatClampNeg), S)) else if p0 = 5 then (some (S 400 ((2 : Int32).toNatClampNeg), S)) else if p0 = 6 then (some (S 400 ((3 : Int32).toNatClampNeg), S)) else if p0 = 7 then (some (S 400 ((4 : Int32).toNatClampNeg), S)) else if p0 = 8 then (some (S 400 ((5 : Int32).toNatClampNeg), S)) else if p0 = 9 then (sy_c (m_Model_weightOf 400 31 S) fun r12 S11 => some (r12, S11)) else if p0 = 10 then (sy_c (m_Model_forceOfAll 400 31 S) fun r16 S15 => some (r16, S15)) else if p0 = 11 then (some (S 392 28, S)) else if p0 = 12 then (some (S 392 30, S)) else if p0 = 13 then (some (S 392 26, S)) else (some ((-1000000002), S))
theorem cv_Model_told : sy_cV RX12 yX12_told cX12_told 2 (some .int) 1 := ⟨wm_418, wm_419, wm_5, wm_420, by decide +kernel⟩
set_option maxRecDepth 100000 in
set_option maxHeartbeats 40000000 in
theorem c_Model_told (l : Launch) {E : sy_ET} (ht : sy_OModel E) {p0 : Int32} {S S' : sy_St} {r : Int32} (h : m_Model_told p0 S = some (r, S')) : sy_MI l yX12_told cX12_told 2 (some .int) 3 67 [.ref (sy_ad E 392), .int p0] E S r S' := by
  refine sy_MI_of RX12 pn_12 rfl (Nat.le_of_ble_eq_true rfl) (fun p e s m args below meth c A ls fx hr hlk hA X hl => ?_)
  have hx := fx.1
  have hb := fx.2.1
  have hown := fx.2.2.2.1
  have hts := fx.2.2.2.2
  have hl : lv_has ls 2 [(0, .ref (sy_ad E 392)), (1, .int p0)] := hl
  unfold m_Model_told at h
  refine lv_iload_n hx hb dX12_told_0 rfl (lv_at hl 1 rfl) ?_
  rcases Decidable.em (p0 = 0) with c1 | c1
  · have h := sy_t c1 h
    refine sy_top c1.symm ?_
    refine lv_tableIn (off := 71) (tgt := 72) hx hb dX12_told_1 (by decide) (by decide) rfl (by decide) ?_
    refine lv_aload_n hx hb dX12_told_72 rfl (lv_at hl 0 rfl) ?_
    refine sy_g11 fx X (sy_OModel_o ht) 17 (by decide) wm_330 (fun _ h9 => h9) rfl dX12_told_73 ?_
    exact sy_iret fx X hr hlk h dX12_told_76
  · have h := sy_f c1 h
    rcases Decidable.em (p0 = 1) with c2 | c2
    · have h := sy_t c2 h
      refine sy_top c2.symm ?_
      refine lv_tableIn (off := 76) (tgt := 77) hx hb dX12_told_1 (by decide) (by decide) rfl (by decide) ?_
      refine lv_aload_n hx hb dX12_told_77 rfl (lv_at hl 0 rfl) ?_
      refine sy_g11 fx X (sy_OModel_o ht) 19 (by decide) wm_188 (fun _ h9 => h9) rfl dX12_told_78 ?_
      exact sy_iret fx X hr hlk h dX12_told_81
    · have h := sy_f c2 h
      rcases Decidable.em (p0 = 2) with c3 | c3
      · have h := sy_t c3 h
        refine sy_top c3.symm ?_
        refine lv_tableIn (off := 81) (tgt := 82) hx hb dX12_told_1 (by decide) (by decide) rfl (by decide) ?_
        refine lv_aload_n hx hb dX12_told_82 rfl (lv_at hl 0 rfl) ?_
        refine sy_g11 fx X (sy_OModel_o ht) 0 (by decide) wm_209 (fun _ h9 => h9) rfl dX12_told_83 ?_
        exact sy_iret fx X hr hlk h dX12_told_86
      · have h := sy_f c3 h
        rcases Decidable.em (p0 = 3) with c4 | c4
        · have h := sy_t c4 h
          refine sy_top c4.symm ?_
          refine lv_tableIn (off := 86) (tgt := 87) hx hb dX12_told_1 (by decide) (by decide) rfl (by decide) ?_
          refine lv_aload_n hx hb dX12_told_87 rfl (lv_at hl 0 rfl) ?_
          refine sy_q11 fx X (sy_OModel_o ht) 22 (by decide) wm_174 (fun _ h9 => h9) rfl (sy_OModel_r22 ht) dX12_told_88 ?_
          refine lv_iconst (v := 0) hx hb dX12_told_91 (by decide) ?_
          refine sy_iald fx X (sy_OModel_a22 ht) (by decide) dX12_told_92 ?_
          exact sy_iret fx X hr hlk h dX12_told_93
        · have h := sy_f c4 h
          rcases Decidable.em (p0 = 4) with c5 | c5
          · have h := sy_t c5 h
            refine sy_top c5.symm ?_
            refine lv_tableIn (off := 93) (tgt := 94) hx hb dX12_told_1 (by decide) (by decide) rfl (by decide) ?_
            refine lv_aload_n hx hb dX12_told_94 rfl (lv_at hl 0 rfl) ?_
            refine sy_q11 fx X (sy_OModel_o ht) 22 (by decide) wm_174 (fun _ h9 => h9) rfl (sy_OModel_r22 ht) dX12_told_95 ?_
            refine lv_iconst (v := 1) hx hb dX12_told_98 (by decide) ?_
            refine sy_iald fx X (sy_OModel_a22 ht) (by decide) dX12_told_99 ?_
            exact sy_iret fx X hr hlk h dX12_told_100
          · have h := sy_f c5 h
            rcases Decidable.em (p0 = 5) with c6 | c6
            · have h := sy_t c6 h
              refine sy_top c6.symm ?_
              refine lv_tableIn (off := 100) (tgt := 101) hx hb dX12_told_1 (by decide) (by decide) rfl (by decide) ?_
              refine lv_aload_n hx hb dX12_told_101 rfl (lv_at hl 0 rfl) ?_
              refine sy_q11 fx X (sy_OModel_o ht) 22 (by decide) wm_174 (fun _ h9 => h9) rfl (sy_OModel_r22 ht) dX12_told_102 ?_
              refine lv_iconst (v := 2) hx hb dX12_told_105 (by decide) ?_
              refine sy_iald fx X (sy_OModel_a22 ht) (by decide) dX12_told_106 ?_
              exact sy_iret fx X hr hlk h dX12_told_107
            · have h := sy_f c6 h
              rcases Decidable.em (p0 = 6) with c7 | c7
              · have h := sy_t c7 h
                refine sy_top c7.symm ?_
                refine lv_tableIn (off := 107) (tgt := 108) hx hb dX12_told_1 (by decide) (by decide) rfl (by decide) ?_
                refine lv_aload_n hx hb dX12_told_108 rfl (lv_at hl 0 rfl) ?_
                refine sy_q11 fx X (sy_OModel_o ht) 22 (by decide) wm_174 (fun _ h9 => h9) rfl (sy_OModel_r22 ht) dX12_told_109 ?_
                refine lv_iconst (v := 3) hx hb dX12_told_112 (by decide) ?_
                refine sy_iald fx X (sy_OModel_a22 ht) (by decide) dX12_told_113 ?_
                exact sy_iret fx X hr hlk h dX12_told_114
              · have h := sy_f c7 h
                rcases Decidable.em (p0 = 7) with c8 | c8
                · have h := sy_t c8 h
                  refine sy_top c8.symm ?_
                  refine lv_tableIn (off := 114) (tgt := 115) hx hb dX12_told_1 (by decide) (by decide) rfl (by decide) ?_
                  refine lv_aload_n hx hb dX12_told_115 rfl (lv_at hl 0 rfl) ?_
                  refine sy_q11 fx X (sy_OModel_o ht) 22 (by decide) wm_174 (fun _ h9 => h9) rfl (sy_OModel_r22 ht) dX12_told_116 ?_
                  refine lv_iconst (v := 4) hx hb dX12_told_119 (by decide) ?_
                  refine sy_iald fx X (sy_OModel_a22 ht) (by decide) dX12_told_120 ?_
                  exact sy_iret fx X hr hlk h dX12_told_121
                · have h := sy_f c8 h
                  rcases Decidable.em (p0 = 8) with c9 | c9
                  · have h := sy_t c9 h
                    refine sy_top c9.symm ?_
                    refine lv_tableIn (off := 121) (tgt := 122) hx hb dX12_told_1 (by decide) (by decide) rfl (by decide) ?_
                    refine lv_aload_n hx hb dX12_told_122 rfl (lv_at hl 0 rfl) ?_
                    refine sy_q11 fx X (sy_OModel_o ht) 22 (by decide) wm_174 (fun _ h9 => h9) rfl (sy_OModel_r22 ht) dX12_told_123 ?_
                    refine lv_iconst (v := 5) hx hb dX12_told_126 (by decide) ?_
                    refine sy_iald fx X (sy_OModel_a22 ht) (by decide) dX12_told_127 ?_
                    exact sy_iret fx X hr hlk h dX12_told_128
                  · have h := sy_f c9 h
                    rcases Decidable.em (p0 = 9) with c10 | c10
                    · have h := sy_t c10 h
                      refine sy_top c10.symm ?_
                      refine lv_tableIn (off := 128) (tgt := 129) hx hb dX12_told_1 (by decide) (by decide) rfl (by decide) ?_
                      refine lv_aload_n hx hb dX12_told_129 rfl (lv_at hl 0 rfl) ?_
                      refine lv_aload_n hx hb dX12_told_130 rfl (lv_at hl 0 rfl) ?_
                      refine sy_q11 fx X (sy_OModel_o ht) 22 (by decide) wm_174 (fun _ h9 => h9) rfl (sy_OModel_r22 ht) dX12_told_131 ?_
                      obtain ⟨r12, S11, hc13, h⟩ := sy_c_e h
                      refine sy_vi (rest := []) fx hA X hl.1 (sy_OModel_o ht) (sy_en11 (sy_OModel_o ht).2) rfl (c_Model_weightOf l ht (sy_OModel_a22 ht) hc13) cv_Model_weightOf wm_421 ⟨Nat.le_of_ble_eq_true rfl, Nat.le_of_ble_eq_true rfl, Nat.le_refl _, Nat.le_refl _⟩ rfl rfl (Nat.le_of_ble_eq_true rfl) dX12_told_134 (fun H locs X => ?_)
                      exact sy_iret fx X hr hlk h dX12_told_137
                    · have h := sy_f c10 h
                      rcases Decidable.em (p0 = 10) with c14 | c14
                      · have h := sy_t c14 h
                        refine sy_top c14.symm ?_
                        refine lv_tableIn (off := 137) (tgt := 138) hx hb dX12_told_1 (by decide) (by decide) rfl (by decide) ?_
                        refine lv_aload_n hx hb dX12_told_138 rfl (lv_at hl 0 rfl) ?_
                        refine lv_aload_n hx hb dX12_told_139 rfl (lv_at hl 0 rfl) ?_
                        refine sy_q11 fx X (sy_OModel_o ht) 22 (by decide) wm_174 (fun _ h9 => h9) rfl (sy_OModel_r22 ht) dX12_told_140 ?_
                        obtain ⟨r16, S15, hc17, h⟩ := sy_c_e h
                        refine sy_vi (rest := []) fx hA X hl.1 (sy_OModel_o ht) (sy_en11 (sy_OModel_o ht).2) rfl (c_Model_forceOfAll l ht (sy_OModel_a22 ht) hc17) cv_Model_forceOfAll wm_425 ⟨Nat.le_of_ble_eq_true rfl, Nat.le_of_ble_eq_true rfl, Nat.le_refl _, Nat.le_refl _⟩ rfl rfl (Nat.le_of_ble_eq_true rfl) dX12_told_143 (fun H locs X => ?_)
                        exact sy_iret fx X hr hlk h dX12_told_146
                      · have h := sy_f c14 h
                        rcases Decidable.em (p0 = 11) with c18 | c18
                        · have h := sy_t c18 h
                          refine sy_top c18.symm ?_
                          refine lv_tableIn (off := 146) (tgt := 147) hx hb dX12_told_1 (by decide) (by decide) rfl (by decide) ?_
                          refine lv_aload_n hx hb dX12_told_147 rfl (lv_at hl 0 rfl) ?_
                          refine sy_g11 fx X (sy_OModel_o ht) 28 (by decide) wm_190 (fun _ h9 => h9) rfl dX12_told_148 ?_
                          exact sy_iret fx X hr hlk h dX12_told_151
                        · have h := sy_f c18 h
                          rcases Decidable.em (p0 = 12) with c19 | c19
                          · have h := sy_t c19 h
                            refine sy_top c19.symm ?_
                            refine lv_tableIn (off := 151) (tgt := 152) hx hb dX12_told_1 (by decide) (by decide) rfl (by decide) ?_
                            refine lv_aload_n hx hb dX12_told_152 rfl (lv_at hl 0 rfl) ?_
                            refine sy_g11 fx X (sy_OModel_o ht) 30 (by decide) wm_191 (fun _ h9 => h9) rfl dX12_told_153 ?_
                            exact sy_iret fx X hr hlk h dX12_told_156
                          · have h := sy_f c19 h
                            rcases Decidable.em (p0 = 13) with c20 | c20
                            · have h := sy_t c20 h
                              refine sy_top c20.symm ?_
                              refine lv_tableIn (off := 156) (tgt := 157) hx hb dX12_told_1 (by decide) (by decide) rfl (by decide) ?_
                              refine lv_aload_n hx hb dX12_told_157 rfl (lv_at hl 0 rfl) ?_
                              refine sy_g11 fx X (sy_OModel_o ht) 26 (by decide) wm_189 (fun _ h9 => h9) rfl dX12_told_158 ?_
                              exact sy_iret fx X hr hlk h dX12_told_161
                            · have h := sy_f c20 h
                              refine lv_tableOut (tgt := 162) hx hb dX12_told_1 (by have ec1 := sy_ne_toInt c1 (v := 0) (n := 0) (by decide); have ec2 := sy_ne_toInt c2 (v := 1) (n := 1) (by decide); have ec3 := sy_ne_toInt c3 (v := 2) (n := 2) (by decide); have ec4 := sy_ne_toInt c4 (v := 3) (n := 3) (by decide); have ec5 := sy_ne_toInt c5 (v := 4) (n := 4) (by decide); have ec6 := sy_ne_toInt c6 (v := 5) (n := 5) (by decide); have ec7 := sy_ne_toInt c7 (v := 6) (n := 6) (by decide); have ec8 := sy_ne_toInt c8 (v := 7) (n := 7) (by decide); have ec9 := sy_ne_toInt c9 (v := 8) (n := 8) (by decide); have ec10 := sy_ne_toInt c10 (v := 9) (n := 9) (by decide); have ec14 := sy_ne_toInt c14 (v := 10) (n := 10) (by decide); have ec18 := sy_ne_toInt c18 (v := 11) (n := 11) (by decide); have ec19 := sy_ne_toInt c19 (v := 12) (n := 12) (by decide); have ec20 := sy_ne_toInt c20 (v := 13) (n := 13) (by decide); omega) (by decide) ?_
                              refine lv_ldc (v := (-1000000002)) hx hb hown (hts _ wm_208) dX12_told_162 ?_
                              exact sy_iret fx X hr hlk h dX12_told_164
def m_Model_undo (p0 : Int32) (S : sy_St) : sy_R := sy_c (m_Model_in p0 1 60 S) fun r2 S1 => if r2 = 0 then (some ((-1000000002), S1)) else (if p0 ≤ (S1 392 26) then (sy_b (sy_up S1 392 26 ((S1 392 26) - p0)) fun S6 => sy_b (S6 400 ((6 : Int32).toNatClampNeg) : Int32) fun x7 => sy_c (m_Model_copy 404 1860 400 31 (31 * (S6 392 26)) 0 S6) fun r9 S8 => sy_b (sy_up S8 400 ((6 : Int32).toNatClampNeg) x7) fun S11 => some (S11 400 ((0 : Int32).toNatClampNeg), S11)) else (some ((-1000000003), S1)))
theorem cv_Model_undo : sy_cV RX12 yX12_undo cX12_undo 3 (some .int) 1 := ⟨wm_679, wm_680, wm_5, wm_681, by decide +kernel⟩
set_option maxRecDepth 100000 in
set_option maxHeartbeats 40000000 in
theorem c_Model_undo (l : Launch) {E : sy_ET} (ht : sy_OModel E) {p0 : Int32} {S S' : sy_St} {r : Int32} (h : m_Model_undo p0 S = some (r, S')) : sy_MI l yX12_undo cX12_undo 3 (some .int) 1 24 [.ref (sy_ad E 392), .int p0] E S r S' := by
  refine sy_MI_of RX12 pn_12 rfl (Nat.le_of_ble_eq_true rfl) (fun p e s m args below meth c A ls fx hr hlk hA X hl => ?_)
  have hx := fx.1
  have hb := fx.2.1
  have hown := fx.2.2.2.1
  have hts := fx.2.2.2.2
  have hl : lv_has ls 3 [(0, .ref (sy_ad E 392)), (1, .int p0)] := hl
  unfold m_Model_undo at h
  refine lv_iload_n hx hb dX12_undo_0 rfl (lv_at hl 1 rfl) ?_
  refine lv_iconst (v := 1) hx hb dX12_undo_1 (by decide) ?_
  refine lv_bipush (v := 60) hx hb dX12_undo_2 (by decide) ?_
  obtain ⟨r2, S1, hc3, h⟩ := sy_c_e h
  refine sy_si (rest := []) fx hA X hl.1 (c_Model_in l hc3) cv_Model_in wm_211 ⟨Nat.le_of_ble_eq_true rfl, Nat.le_of_ble_eq_true rfl, Nat.le_refl _, Nat.le_refl _⟩ rfl rfl (Nat.le_of_ble_eq_true rfl) dX12_undo_4 (fun H locs X => ?_)
  refine lv_if_ne (tgt := 13) hx hb dX12_undo_7 (by decide) (fun c4 => ?_) (fun c4 => ?_)
  · have h := sy_f c4 h
    refine lv_iload_n hx hb dX12_undo_13 rfl (lv_at hl 1 rfl) ?_
    refine lv_aload_n hx hb dX12_undo_14 rfl (lv_at hl 0 rfl) ?_
    refine sy_g11 fx X (sy_OModel_o ht) 26 (by decide) wm_189 (fun _ h9 => h9) rfl dX12_undo_15 ?_
    refine lv_icmp_le (tgt := 24) hx hb dX12_undo_18 (by decide) (fun c5 => ?_) (fun c5 => ?_)
    · have h := sy_t c5 h
      refine lv_aload_n hx hb dX12_undo_24 rfl (lv_at hl 0 rfl) ?_
      refine lv_dup hx hb dX12_undo_25 rfl ?_
      refine sy_g11 fx X (sy_OModel_o ht) 26 (by decide) wm_189 (fun _ h9 => h9) rfl dX12_undo_26 ?_
      refine lv_iload_n hx hb dX12_undo_29 rfl (lv_at hl 1 rfl) ?_
      refine lv_isub hx hb dX12_undo_30 ?_
      obtain ⟨S6, hS6, h⟩ := sy_b_e h
      refine sy_p11 fx X (sy_OModel_o ht) 26 (by decide) wm_189 (fun _ h9 => h9) rfl (ty := .int) (by decide +kernel) rfl rfl hS6 sy_s11_26 dX12_undo_31 (fun H locs X => ?_)
      refine lv_aload_n hx hb dX12_undo_34 rfl (lv_at hl 0 rfl) ?_
      refine sy_q11 fx X (sy_OModel_o ht) 22 (by decide) wm_174 (fun _ h9 => h9) rfl (sy_OModel_r22 ht) dX12_undo_35 ?_
      refine lv_bipush (v := 6) hx hb dX12_undo_38 (by decide) ?_
      refine sy_iald fx X (sy_OModel_a22 ht) (by decide) dX12_undo_40 ?_
      obtain ⟨x7, hx7, h⟩ := sy_b_e h
      refine sy_top hx7 ?_
      refine lv_istore_n (lv' := [(2, .int x7), (0, .ref (sy_ad E 392)), (1, .int p0)]) hx hb dX12_undo_41 rfl hl (by decide) rfl (fun ls hl => ?_)
      refine lv_aload_n hx hb dX12_undo_42 rfl (lv_at hl 1 rfl) ?_
      refine sy_q11 fx X (sy_OModel_o ht) 27 (by decide) wm_178 (fun _ h9 => h9) rfl (sy_OModel_r27 ht) dX12_undo_43 ?_
      refine lv_bipush (v := 31) hx hb dX12_undo_46 (by decide) ?_
      refine lv_aload_n hx hb dX12_undo_48 rfl (lv_at hl 1 rfl) ?_
      refine sy_g11 fx X (sy_OModel_o ht) 26 (by decide) wm_189 (fun _ h9 => h9) rfl dX12_undo_49 ?_
      refine lv_imul hx hb dX12_undo_52 ?_
      refine lv_aload_n hx hb dX12_undo_53 rfl (lv_at hl 1 rfl) ?_
      refine sy_q11 fx X (sy_OModel_o ht) 22 (by decide) wm_174 (fun _ h9 => h9) rfl (sy_OModel_r22 ht) dX12_undo_54 ?_
      refine lv_iconst (v := 0) hx hb dX12_undo_57 (by decide) ?_
      obtain ⟨r9, S8, hc10, h⟩ := sy_c_e h
      refine sy_sv (rest := []) fx hA X hl.1 (c_Model_copy l (sy_OModel_a27 ht) (sy_OModel_a22 ht) hc10) cv_Model_copy wm_539 ⟨Nat.le_of_ble_eq_true rfl, Nat.le_of_ble_eq_true rfl, Nat.le_refl _, Nat.le_refl _⟩ rfl rfl (Nat.le_of_ble_eq_true rfl) dX12_undo_58 (fun H locs X => ?_)
      refine lv_aload_n hx hb dX12_undo_61 rfl (lv_at hl 1 rfl) ?_
      refine sy_q11 fx X (sy_OModel_o ht) 22 (by decide) wm_174 (fun _ h9 => h9) rfl (sy_OModel_r22 ht) dX12_undo_62 ?_
      refine lv_bipush (v := 6) hx hb dX12_undo_65 (by decide) ?_
      refine lv_iload_n hx hb dX12_undo_67 rfl (lv_at hl 0 rfl) ?_
      obtain ⟨S11, hS11, h⟩ := sy_b_e h
      refine sy_iast fx X (sy_OModel_a22 ht) (by decide) hS11 dX12_undo_68 (fun H locs X => ?_)
      refine lv_aload_n hx hb dX12_undo_69 rfl (lv_at hl 1 rfl) ?_
      refine sy_q11 fx X (sy_OModel_o ht) 22 (by decide) wm_174 (fun _ h9 => h9) rfl (sy_OModel_r22 ht) dX12_undo_70 ?_
      refine lv_iconst (v := 0) hx hb dX12_undo_73 (by decide) ?_
      refine sy_iald fx X (sy_OModel_a22 ht) (by decide) dX12_undo_74 ?_
      exact sy_iret fx X hr hlk h dX12_undo_75
    · have h := sy_f c5 h
      refine lv_ldc (v := (-1000000003)) hx hb hown (hts _ wm_530) dX12_undo_21 ?_
      exact sy_iret fx X hr hlk h dX12_undo_23
  · have h := sy_t c4 h
    refine lv_ldc (v := (-1000000002)) hx hb hown (hts _ wm_208) dX12_undo_10 ?_
    exact sy_iret fx X hr hlk h dX12_undo_12
def m_Model_who_B52 (kk26 : Int32 → Int32 → Int32 → sy_St → sy_R) (kk52 : Int32 → Int32 → Int32 → Int32 → sy_St → sy_R) (y1 : Int32) (y2 : Int32) (y3 : Int32) (y4 : Int32) (S : sy_St) : sy_R := if (S 392 28) ≤ y4 then (sy_b (y3 + (-1) : Int32) fun x27 => kk26 y1 y2 x27 S) else (sy_g (sy_in y4 5) <| sy_g (sy_in y4 6) <| sy_b (sy_up S 408 y4.toNatClampNeg (S 407 y4.toNatClampNeg)) fun S30 => sy_b (y4 + 1 : Int32) fun x31 => kk52 y1 y2 y3 x31 S30)
def m_Model_who_B26 (kk26 : Int32 → Int32 → Int32 → sy_St → sy_R) (y1 : Int32) (y2 : Int32) (y3 : Int32) (S : sy_St) : sy_R := if y3 < 0 then (if y1 = (-1) then (some (y2, S)) else (if y2 = 0 then (some ((-1), S)) else (sy_c (m_Model_in y1 0 ((S 392 28) - 1) S) fun r13 S12 => if r13 = 0 then (some ((-1), S12)) else (sy_g (sy_in y1 6) <| some (S12 408 y1.toNatClampNeg, S12))))) else (sy_c (m_Model_lay y3 (S 392 28) S) fun r18 S17 => sy_c (m_Model_isAsSeen S17) fun r21 S20 => if r21 = 0 then (sy_b (y3 + (-1) : Int32) fun x24 => kk26 y1 y2 x24 S20) else (sy_b (y2 + 1 : Int32) fun x25 => sy_fix (fun _ _ _ _ _ => none) (m_Model_who_B52 kk26) sy_F y1 x25 y3 0 S20))
def m_Model_who (p0 : Int32) (S : sy_St) : sy_R := sy_c (m_Model_isHere S) fun r2 S1 => if r2 = 0 then (some ((-1000000003), S1)) else (sy_c (m_Model_power (S1 392 19) (S1 392 28) S1) fun r6 S5 => sy_b (r6 - 1 : Int32) fun x8 => sy_fix (fun _ _ _ _ => none) (m_Model_who_B26) sy_F p0 0 x8 S5)
theorem cv_Model_who : sy_cV RX12 yX12_who cX12_who 5 (some .int) 1 := ⟨wm_999, wm_1000, wm_5, wm_1001, by decide +kernel⟩
set_option maxRecDepth 100000 in
set_option maxHeartbeats 40000000 in
theorem c_Model_who (l : Launch) {E : sy_ET} (ht : sy_OModel E) {p0 : Int32} {S S' : sy_St} {r : Int32} (h : m_Model_who p0 S = some (r, S')) : sy_MI l yX12_who cX12_who 5 (some .int) 5 113 [.ref (sy_ad E 392), .int p0] E S r S' := by
  refine sy_MI_of RX12 pn_12 rfl (Nat.le_of_ble_eq_true rfl) (fun p e s m args below meth c A ls fx hr hlk hA X hl => ?_)
  have hx := fx.1
  have hb := fx.2.1
  have hown := fx.2.2.2.1
  have hts := fx.2.2.2.2
  have hl : lv_has ls 5 [(0, .ref (sy_ad E 392)), (1, .int p0)] := hl
  have L_26 : ∀ (n26 : Nat) (y1 y2 y3 : Int32) (S : sy_St) (H : Heap) (locs : List Loc) (ls : Array Slot), sy_Wd E A s S H locs → lv_has ls 5 [(0, .ref (sy_ad E 392)), (1, .int y1), (2, .int y2), (3, .int y3)] → sy_fix (fun _ _ _ _ => none) (m_Model_who_B26) n26 y1 y2 y3 S = some (r, S') → W p l e (sy_rm 5 113) s m args below meth c H locs 0 0 (MQ below (sy_Qi E A r S') args s 0 0 A) (F0 m 26 ls []) := by
    intro n26
    induction n26 with
    | zero => intro y1 y2 y3 S H locs ls X hl h; have h9 : (none : sy_R) = some (r, S') := h; cases h9
    | succ n26 ih26 =>
      have L_52 : ∀ (n52 : Nat) (y1 y2 y3 y4 : Int32) (S : sy_St) (H : Heap) (locs : List Loc) (ls : Array Slot), sy_Wd E A s S H locs → lv_has ls 5 [(0, .ref (sy_ad E 392)), (1, .int y1), (2, .int y2), (3, .int y3), (4, .int y4)] → sy_fix (fun _ _ _ _ _ => none) (m_Model_who_B52 (sy_fix (fun _ _ _ _ => none) (m_Model_who_B26) n26)) n52 y1 y2 y3 y4 S = some (r, S') → W p l e (sy_rm 5 113) s m args below meth c H locs 0 0 (MQ below (sy_Qi E A r S') args s 0 0 A) (F0 m 52 ls []) := by
        intro n52
        induction n52 with
        | zero => intro y1 y2 y3 y4 S H locs ls X hl h; have h9 : (none : sy_R) = some (r, S') := h; cases h9
        | succ n52 ih52 =>
          intro y1 y2 y3 y4 S H locs ls X hl h
          have h : m_Model_who_B52 (sy_fix (fun _ _ _ _ => none) (m_Model_who_B26) n26) (sy_fix (fun _ _ _ _ _ => none) (m_Model_who_B52 (sy_fix (fun _ _ _ _ => none) (m_Model_who_B26) n26)) n52) y1 y2 y3 y4 S = some (r, S') := h
          unfold m_Model_who_B52 at h
          refine lv_iload hx hb dX12_who_52 (lv_at hl 4 rfl) ?_
          refine lv_aload_n hx hb dX12_who_54 rfl (lv_at hl 0 rfl) ?_
          refine sy_g11 fx X (sy_OModel_o ht) 28 (by decide) wm_190 (fun _ h9 => h9) rfl dX12_who_55 ?_
          refine lv_icmp_ge (tgt := 81) hx hb dX12_who_58 (by decide) (fun c26 => ?_) (fun c26 => ?_)
          · have h := sy_t c26 h
            obtain ⟨x27, hx27, h⟩ := sy_b_e h
            refine lv_iinc (v := x27) (lv' := [(3, .int x27), (0, .ref (sy_ad E 392)), (1, .int y1), (2, .int y2), (4, .int y4)]) hx hb dX12_who_81 hl (k := 3) rfl (by rw [hx27]; rfl) (by decide) rfl (fun ls hl => ?_)
            refine lv_goto (tgt := 26) hx hb dX12_who_84 (by decide) ?_
            exact ih26 y1 y2 x27 S _ _ _ X (lv_sub hl [1, 2, 3, 0] rfl) h
          · have h := sy_f c26 h
            refine lv_aload_n hx hb dX12_who_61 rfl (lv_at hl 0 rfl) ?_
            refine sy_q11 fx X (sy_OModel_o ht) 33 (by decide) wm_182 (fun _ h9 => h9) rfl (sy_OModel_r33 ht) dX12_who_62 ?_
            refine lv_iload hx hb dX12_who_65 (lv_at hl 4 rfl) ?_
            refine lv_aload_n hx hb dX12_who_67 rfl (lv_at hl 0 rfl) ?_
            refine sy_q11 fx X (sy_OModel_o ht) 32 (by decide) wm_181 (fun _ h9 => h9) rfl (sy_OModel_r32 ht) dX12_who_68 ?_
            refine lv_iload hx hb dX12_who_71 (lv_at hl 4 rfl) ?_
            obtain ⟨g28, h⟩ := sy_g_e h
            refine sy_iald fx X (sy_OModel_a32 ht) g28 dX12_who_73 ?_
            obtain ⟨g29, h⟩ := sy_g_e h
            obtain ⟨S30, hS30, h⟩ := sy_b_e h
            refine sy_iast fx X (sy_OModel_a33 ht) g29 hS30 dX12_who_74 (fun H locs X => ?_)
            obtain ⟨x31, hx31, h⟩ := sy_b_e h
            refine lv_iinc (v := x31) (lv' := [(4, .int x31), (0, .ref (sy_ad E 392)), (1, .int y1), (2, .int y2), (3, .int y3)]) hx hb dX12_who_75 hl (k := 4) rfl (by rw [hx31]; rfl) (by decide) rfl (fun ls hl => ?_)
            refine lv_goto (tgt := 52) hx hb dX12_who_78 (by decide) ?_
            exact ih52 y1 y2 y3 x31 S30 _ _ _ X (lv_sub hl [1, 2, 3, 4, 0] rfl) h
      intro y1 y2 y3 S H locs ls X hl h
      have h : m_Model_who_B26 (sy_fix (fun _ _ _ _ => none) (m_Model_who_B26) n26) y1 y2 y3 S = some (r, S') := h
      unfold m_Model_who_B26 at h
      refine lv_iload_n hx hb dX12_who_26 rfl (lv_at hl 3 rfl) ?_
      refine lv_if_lt (tgt := 87) hx hb dX12_who_27 (by decide) (fun c9 => ?_) (fun c9 => ?_)
      · have h := sy_t c9 h
        refine lv_iload_n hx hb dX12_who_87 rfl (lv_at hl 1 rfl) ?_
        refine lv_iconst (v := (-1)) hx hb dX12_who_88 (by decide) ?_
        refine lv_icmp_ne (tgt := 96) hx hb dX12_who_89 (by decide) (fun c10 => ?_) (fun c10 => ?_)
        · have h := sy_f c10 h
          refine lv_iload_n hx hb dX12_who_96 rfl (lv_at hl 2 rfl) ?_
          refine lv_if_eq (tgt := 114) hx hb dX12_who_97 (by decide) (fun c11 => ?_) (fun c11 => ?_)
          · have h := sy_t c11 h
            refine lv_iconst (v := (-1)) hx hb dX12_who_114 (by decide) ?_
            refine lv_goto (tgt := 124) hx hb dX12_who_115 (by decide) ?_
            exact sy_iret fx X hr hlk h dX12_who_124
          · have h := sy_f c11 h
            refine lv_iload_n hx hb dX12_who_100 rfl (lv_at hl 1 rfl) ?_
            refine lv_iconst (v := 0) hx hb dX12_who_101 (by decide) ?_
            refine lv_aload_n hx hb dX12_who_102 rfl (lv_at hl 0 rfl) ?_
            refine sy_g11 fx X (sy_OModel_o ht) 28 (by decide) wm_190 (fun _ h9 => h9) rfl dX12_who_103 ?_
            refine lv_iconst (v := 1) hx hb dX12_who_106 (by decide) ?_
            refine lv_isub hx hb dX12_who_107 ?_
            obtain ⟨r13, S12, hc14, h⟩ := sy_c_e h
            refine sy_si (rest := []) fx hA X hl.1 (c_Model_in l hc14) cv_Model_in wm_211 ⟨Nat.le_of_ble_eq_true rfl, Nat.le_of_ble_eq_true rfl, Nat.le_refl _, Nat.le_refl _⟩ rfl rfl (Nat.le_of_ble_eq_true rfl) dX12_who_108 (fun H locs X => ?_)
            refine lv_if_ne (tgt := 118) hx hb dX12_who_111 (by decide) (fun c15 => ?_) (fun c15 => ?_)
            · have h := sy_f c15 h
              refine lv_aload_n hx hb dX12_who_118 rfl (lv_at hl 0 rfl) ?_
              refine sy_q11 fx X (sy_OModel_o ht) 33 (by decide) wm_182 (fun _ h9 => h9) rfl (sy_OModel_r33 ht) dX12_who_119 ?_
              refine lv_iload_n hx hb dX12_who_122 rfl (lv_at hl 1 rfl) ?_
              obtain ⟨g16, h⟩ := sy_g_e h
              refine sy_iald fx X (sy_OModel_a33 ht) g16 dX12_who_123 ?_
              exact sy_iret fx X hr hlk h dX12_who_124
            · have h := sy_t c15 h
              refine lv_iconst (v := (-1)) hx hb dX12_who_114 (by decide) ?_
              refine lv_goto (tgt := 124) hx hb dX12_who_115 (by decide) ?_
              exact sy_iret fx X hr hlk h dX12_who_124
        · have h := sy_t c10 h
          refine lv_iload_n hx hb dX12_who_92 rfl (lv_at hl 2 rfl) ?_
          refine lv_goto (tgt := 124) hx hb dX12_who_93 (by decide) ?_
          exact sy_iret fx X hr hlk h dX12_who_124
      · have h := sy_f c9 h
        refine lv_aload_n hx hb dX12_who_30 rfl (lv_at hl 0 rfl) ?_
        refine lv_iload_n hx hb dX12_who_31 rfl (lv_at hl 3 rfl) ?_
        refine lv_aload_n hx hb dX12_who_32 rfl (lv_at hl 0 rfl) ?_
        refine sy_g11 fx X (sy_OModel_o ht) 28 (by decide) wm_190 (fun _ h9 => h9) rfl dX12_who_33 ?_
        obtain ⟨r18, S17, hc19, h⟩ := sy_c_e h
        refine sy_vv (rest := []) fx hA X hl.1 (sy_OModel_o ht) (sy_en11 (sy_OModel_o ht).2) rfl (c_Model_lay l ht hc19) cv_Model_lay wm_770 ⟨Nat.le_of_ble_eq_true rfl, Nat.le_of_ble_eq_true rfl, Nat.le_refl _, Nat.le_refl _⟩ rfl rfl (Nat.le_of_ble_eq_true rfl) dX12_who_36 (fun H locs X => ?_)
        refine lv_aload_n hx hb dX12_who_39 rfl (lv_at hl 0 rfl) ?_
        obtain ⟨r21, S20, hc22, h⟩ := sy_c_e h
        refine sy_vi (rest := []) fx hA X hl.1 (sy_OModel_o ht) (sy_en11 (sy_OModel_o ht).2) rfl (c_Model_isAsSeen l ht hc22) cv_Model_isAsSeen wm_1002 ⟨Nat.le_of_ble_eq_true rfl, Nat.le_of_ble_eq_true rfl, Nat.le_refl _, Nat.le_refl _⟩ rfl rfl (Nat.le_of_ble_eq_true rfl) dX12_who_40 (fun H locs X => ?_)
        refine lv_if_eq (tgt := 81) hx hb dX12_who_43 (by decide) (fun c23 => ?_) (fun c23 => ?_)
        · have h := sy_t c23 h
          obtain ⟨x24, hx24, h⟩ := sy_b_e h
          refine lv_iinc (v := x24) (lv' := [(3, .int x24), (0, .ref (sy_ad E 392)), (1, .int y1), (2, .int y2)]) hx hb dX12_who_81 hl (k := 3) rfl (by rw [hx24]; rfl) (by decide) rfl (fun ls hl => ?_)
          refine lv_goto (tgt := 26) hx hb dX12_who_84 (by decide) ?_
          exact ih26 y1 y2 x24 S20 _ _ _ X (lv_sub hl [1, 2, 3, 0] rfl) h
        · have h := sy_f c23 h
          obtain ⟨x25, hx25, h⟩ := sy_b_e h
          refine lv_iinc (v := x25) (lv' := [(2, .int x25), (0, .ref (sy_ad E 392)), (1, .int y1), (3, .int y3)]) hx hb dX12_who_46 hl (k := 2) rfl (by rw [hx25]; rfl) (by decide) rfl (fun ls hl => ?_)
          refine lv_iconst (v := 0) hx hb dX12_who_49 (by decide) ?_
          refine lv_istore (lv' := [(4, .int 0), (2, .int x25), (0, .ref (sy_ad E 392)), (1, .int y1), (3, .int y3)]) hx hb dX12_who_50 hl (by decide) rfl (fun ls hl => ?_)
          exact L_52 sy_F y1 x25 y3 0 S20 _ _ _ X (lv_sub hl [2, 3, 1, 4, 0] rfl) h
  unfold m_Model_who at h
  refine lv_aload_n hx hb dX12_who_0 rfl (lv_at hl 0 rfl) ?_
  obtain ⟨r2, S1, hc3, h⟩ := sy_c_e h
  refine sy_vi (rest := []) fx hA X hl.1 (sy_OModel_o ht) (sy_en11 (sy_OModel_o ht).2) rfl (c_Model_isHere l ht hc3) cv_Model_isHere wm_531 ⟨Nat.le_of_ble_eq_true rfl, Nat.le_of_ble_eq_true rfl, Nat.le_refl _, Nat.le_refl _⟩ rfl rfl (Nat.le_of_ble_eq_true rfl) dX12_who_1 (fun H locs X => ?_)
  refine lv_if_ne (tgt := 10) hx hb dX12_who_4 (by decide) (fun c4 => ?_) (fun c4 => ?_)
  · have h := sy_f c4 h
    refine lv_iconst (v := 0) hx hb dX12_who_10 (by decide) ?_
    refine lv_istore_n (lv' := [(2, .int 0), (0, .ref (sy_ad E 392)), (1, .int p0)]) hx hb dX12_who_11 rfl hl (by decide) rfl (fun ls hl => ?_)
    refine lv_aload_n hx hb dX12_who_12 rfl (lv_at hl 1 rfl) ?_
    refine sy_g11 fx X (sy_OModel_o ht) 19 (by decide) wm_188 (fun _ h9 => h9) rfl dX12_who_13 ?_
    refine lv_aload_n hx hb dX12_who_16 rfl (lv_at hl 1 rfl) ?_
    refine sy_g11 fx X (sy_OModel_o ht) 28 (by decide) wm_190 (fun _ h9 => h9) rfl dX12_who_17 ?_
    obtain ⟨r6, S5, hc7, h⟩ := sy_c_e h
    refine sy_si (rest := []) fx hA X hl.1 (c_Model_power l hc7) cv_Model_power wm_767 ⟨Nat.le_of_ble_eq_true rfl, Nat.le_of_ble_eq_true rfl, Nat.le_refl _, Nat.le_refl _⟩ rfl rfl (Nat.le_of_ble_eq_true rfl) dX12_who_20 (fun H locs X => ?_)
    refine lv_iconst (v := 1) hx hb dX12_who_23 (by decide) ?_
    refine lv_isub hx hb dX12_who_24 ?_
    obtain ⟨x8, hx8, h⟩ := sy_b_e h
    refine sy_top hx8 ?_
    refine lv_istore_n (lv' := [(3, .int x8), (2, .int 0), (0, .ref (sy_ad E 392)), (1, .int p0)]) hx hb dX12_who_25 rfl hl (by decide) rfl (fun ls hl => ?_)
    exact L_26 sy_F p0 0 x8 S5 _ _ _ X (lv_sub hl [2, 3, 1, 0] rfl) h
  · have h := sy_t c4 h
    refine lv_ldc (v := (-1000000003)) hx hb hown (hts _ wm_530) dX12_who_7 ?_
    exact sy_iret fx X hr hlk h dX12_who_9
