def m_Model_copy_B3 (a0 : Nat) (n0 : Nat) (a2 : Nat) (n2 : Nat) (kk3 : Int32 → Int32 → Int32 → sy_St → sy_R) (y1 : Int32) (y3 : Int32) (y4 : Int32) (S : sy_St) : sy_R := if 31 ≤ y4 then (some (0, S)) else (sy_b (y1 + y4 : Int32) fun x2 => sy_g (sy_in x2 n0) <| sy_g (sy_in (y3 + y4) n2) <| sy_b (sy_up S a2 ((y3 + y4).toNatClampNeg) (S a0 x2.toNatClampNeg)) fun S5 => sy_b (y4 + 1 : Int32) fun x6 => kk3 y1 y3 x6 S5)
def m_Model_copy (a0 : Nat) (n0 : Nat) (a2 : Nat) (n2 : Nat) (p1 : Int32) (p3 : Int32) (S : sy_St) : sy_R := sy_fix (fun _ _ _ _ => none) (m_Model_copy_B3 a0 n0 a2 n2) sy_F p1 p3 0 S
theorem cv_Model_copy : sy_cS RX12 yX12_copy cX12_copy 5 none 4 := ⟨wm_540, wm_5, wm_541, by decide +kernel⟩
set_option maxRecDepth 100000 in
set_option maxHeartbeats 40000000 in
theorem c_Model_copy (l : Launch) {E : sy_ET} {a0 : Nat} {n0 : Nat} {a2 : Nat} {n2 : Nat} (h0 : sy_isI E a0 n0) (h2 : sy_isI E a2 n2) {p1 : Int32} {p3 : Int32} {S S' : sy_St} {r : Int32} (h : m_Model_copy a0 n0 a2 n2 p1 p3 S = some (r, S')) : sy_MV l yX12_copy cX12_copy 5 0 0 [.ref (sy_ad E a0), .int p1, .ref (sy_ad E a2), .int p3] E S S' := by
  refine sy_MV_of RX12 pn_12 rfl (Nat.le_of_ble_eq_true rfl) (fun p e s m args below meth c A ls fx hr hlk hA X hl => ?_)
  have hx := fx.1
  have hb := fx.2.1
  have hown := fx.2.2.2.1
  have hts := fx.2.2.2.2
  have hl : lv_has ls 5 [(0, .ref (sy_ad E a0)), (1, .int p1), (2, .ref (sy_ad E a2)), (3, .int p3)] := hl
  have L_3 : ∀ (n3 : Nat) (y1 y3 y4 : Int32) (S : sy_St) (H : Heap) (locs : List Loc) (ls : Array Slot), sy_Wd E A s S H locs → lv_has ls 5 [(0, .ref (sy_ad E a0)), (1, .int y1), (2, .ref (sy_ad E a2)), (3, .int y3), (4, .int y4)] → sy_fix (fun _ _ _ _ => none) (m_Model_copy_B3 a0 n0 a2 n2) n3 y1 y3 y4 S = some (r, S') → W p l e (sy_rm 0 0) s m args below meth c H locs 0 0 (MQ below (sy_Qv E A S') args s 0 0 A) (F0 m 3 ls []) := by
    intro n3
    induction n3 with
    | zero => intro y1 y3 y4 S H locs ls X hl h; have h9 : (none : sy_R) = some (r, S') := h; cases h9
    | succ n3 ih3 =>
      intro y1 y3 y4 S H locs ls X hl h
      have h : m_Model_copy_B3 a0 n0 a2 n2 (sy_fix (fun _ _ _ _ => none) (m_Model_copy_B3 a0 n0 a2 n2) n3) y1 y3 y4 S = some (r, S') := h
      unfold m_Model_copy_B3 at h
      refine lv_iload hx hb dX12_copy_3 (lv_at hl 4 rfl) ?_
      refine lv_bipush (v := 31) hx hb dX12_copy_5 (by decide) ?_
      refine lv_icmp_ge (tgt := 28) hx hb dX12_copy_7 (by decide) (fun c1 => ?_) (fun c1 => ?_)
      · have h := sy_t c1 h
        exact sy_vret fx X hr hlk h dX12_copy_28
      · have h := sy_f c1 h
        refine lv_aload_n hx hb dX12_copy_10 rfl (lv_at hl 2 rfl) ?_
        refine lv_iload_n hx hb dX12_copy_11 rfl (lv_at hl 3 rfl) ?_
        refine lv_iload hx hb dX12_copy_12 (lv_at hl 4 rfl) ?_
        refine lv_iadd hx hb dX12_copy_14 ?_
        refine lv_aload_n hx hb dX12_copy_15 rfl (lv_at hl 0 rfl) ?_
        refine lv_iload_n hx hb dX12_copy_16 rfl (lv_at hl 1 rfl) ?_
        refine lv_iload hx hb dX12_copy_17 (lv_at hl 4 rfl) ?_
        refine lv_iadd hx hb dX12_copy_19 ?_
        obtain ⟨x2, hx2, h⟩ := sy_b_e h
        refine sy_top hx2 ?_
        obtain ⟨g3, h⟩ := sy_g_e h
        refine sy_iald fx X h0 g3 dX12_copy_20 ?_
        obtain ⟨g4, h⟩ := sy_g_e h
        obtain ⟨S5, hS5, h⟩ := sy_b_e h
        refine sy_iast fx X h2 g4 hS5 dX12_copy_21 (fun H locs X => ?_)
        obtain ⟨x6, hx6, h⟩ := sy_b_e h
        refine lv_iinc (v := x6) (lv' := [(4, .int x6), (0, .ref (sy_ad E a0)), (1, .int y1), (2, .ref (sy_ad E a2)), (3, .int y3)]) hx hb dX12_copy_22 hl (k := 4) rfl (by rw [hx6]; rfl) (by decide) rfl (fun ls hl => ?_)
        refine lv_goto (tgt := 3) hx hb dX12_copy_25 (by decide) ?_
        exact ih3 y1 y3 x6 S5 _ _ _ X (lv_sub hl [1, 2, 3, 4, 0] rfl) h
  unfold m_Model_copy at h
  refine lv_iconst (v := 0) hx hb dX12_copy_0 (by decide) ?_
  refine lv_istore (lv' := [(4, .int 0), (0, .ref (sy_ad E a0)), (1, .int p1), (2, .ref (sy_ad E a2)), (3, .int p3)]) hx hb dX12_copy_1 hl (by decide) rfl (fun ls hl => ?_)
  exact L_3 sy_F p1 p3 0 S _ _ _ X (lv_sub hl [1, 2, 3, 4, 0] rfl) h
def m_Model_draw (p0 : Int32) (S : sy_St) : sy_R := sy_b (sy_up S 400 ((6 : Int32).toNatClampNeg) (Int64.toInt32 ((((Int32.toInt64 (S 400 ((6 : Int32).toNatClampNeg))) * 1103515245) + 12345) - (((Int32.toInt64 (S 400 ((6 : Int32).toNatClampNeg))) * 1103515245) + 12345) / 2147483648 * 2147483648))) fun S1 => sy_g (¬ p0 = 0) <| some (((S1 400 ((6 : Int32).toNatClampNeg)) / 65536) - ((S1 400 ((6 : Int32).toNatClampNeg)) / 65536) / p0 * p0, S1)
theorem cv_Model_draw : sy_cV RX12 yX12_draw cX12_draw 2 (some .int) 1 := ⟨wm_663, wm_664, wm_5, wm_665, by decide +kernel⟩
set_option maxRecDepth 100000 in
set_option maxHeartbeats 40000000 in
theorem c_Model_draw (l : Launch) {E : sy_ET} (ht : sy_OModel E) {p0 : Int32} {S S' : sy_St} {r : Int32} (h : m_Model_draw p0 S = some (r, S')) : sy_MI l yX12_draw cX12_draw 2 (some .int) 0 0 [.ref (sy_ad E 392), .int p0] E S r S' := by
  refine sy_MI_of RX12 pn_12 rfl (Nat.le_of_ble_eq_true rfl) (fun p e s m args below meth c A ls fx hr hlk hA X hl => ?_)
  have hx := fx.1
  have hb := fx.2.1
  have hown := fx.2.2.2.1
  have hts := fx.2.2.2.2
  have hl : lv_has ls 2 [(0, .ref (sy_ad E 392)), (1, .int p0)] := hl
  unfold m_Model_draw at h
  refine lv_aload_n hx hb dX12_draw_0 rfl (lv_at hl 0 rfl) ?_
  refine sy_q11 fx X (sy_OModel_o ht) 22 (by decide) wm_174 (fun _ h9 => h9) rfl (sy_OModel_r22 ht) dX12_draw_1 ?_
  refine lv_bipush (v := 6) hx hb dX12_draw_4 (by decide) ?_
  refine lv_aload_n hx hb dX12_draw_6 rfl (lv_at hl 0 rfl) ?_
  refine sy_q11 fx X (sy_OModel_o ht) 22 (by decide) wm_174 (fun _ h9 => h9) rfl (sy_OModel_r22 ht) dX12_draw_7 ?_
  refine lv_bipush (v := 6) hx hb dX12_draw_10 (by decide) ?_
  refine sy_iald fx X (sy_OModel_a22 ht) (by decide) dX12_draw_12 ?_
  refine lv_i2l hx hb dX12_draw_13 rfl ?_
  refine lv_ldc2 (v := 1103515245) hx hb hown (hts _ wm_666) dX12_draw_14 ?_
  refine lv_lmul hx hb dX12_draw_17 ?_
  refine lv_ldc2 (v := 12345) hx hb hown (hts _ wm_667) dX12_draw_18 ?_
  refine lv_ladd hx hb dX12_draw_21 ?_
  refine lv_ldc2 (v := 2147483648) hx hb hown (hts _ wm_668) dX12_draw_22 ?_
  refine lv_lrem hx hb dX12_draw_25 (by decide) ?_
  refine lv_l2i hx hb dX12_draw_26 rfl ?_
  obtain ⟨S1, hS1, h⟩ := sy_b_e h
  refine sy_iast fx X (sy_OModel_a22 ht) (by decide) hS1 dX12_draw_27 (fun H locs X => ?_)
  refine lv_aload_n hx hb dX12_draw_28 rfl (lv_at hl 0 rfl) ?_
  refine sy_q11 fx X (sy_OModel_o ht) 22 (by decide) wm_174 (fun _ h9 => h9) rfl (sy_OModel_r22 ht) dX12_draw_29 ?_
  refine lv_bipush (v := 6) hx hb dX12_draw_32 (by decide) ?_
  refine sy_iald fx X (sy_OModel_a22 ht) (by decide) dX12_draw_34 ?_
  refine lv_ldc (v := 65536) hx hb hown (hts _ wm_669) dX12_draw_35 ?_
  refine lv_idiv hx hb dX12_draw_37 (by decide) ?_
  refine lv_iload_n hx hb dX12_draw_38 rfl (lv_at hl 1 rfl) ?_
  obtain ⟨g2, h⟩ := sy_g_e h
  refine lv_irem hx hb dX12_draw_39 g2 ?_
  exact sy_iret fx X hr hlk h dX12_draw_40
def m_Model_isHere (S : sy_St) : sy_R := if (S 392 17) ≤ 0 then (some (0, S)) else (if (S 392 19) ≤ 0 then (some (0, S)) else (some (1, S)))
theorem cv_Model_isHere : sy_cV RX12 yX12_isHere cX12_isHere 1 (some .boolean) 0 := ⟨wm_532, wm_533, wm_5, wm_534, by decide +kernel⟩
set_option maxRecDepth 100000 in
set_option maxHeartbeats 40000000 in
theorem c_Model_isHere (l : Launch) {E : sy_ET} (ht : sy_OModel E) {S S' : sy_St} {r : Int32} (h : m_Model_isHere S = some (r, S')) : sy_MI l yX12_isHere cX12_isHere 1 (some .boolean) 0 0 [.ref (sy_ad E 392)] E S r S' := by
  refine sy_MI_of RX12 pn_12 rfl (Nat.le_of_ble_eq_true rfl) (fun p e s m args below meth c A ls fx hr hlk hA X hl => ?_)
  have hx := fx.1
  have hb := fx.2.1
  have hown := fx.2.2.2.1
  have hts := fx.2.2.2.2
  have hl : lv_has ls 1 [(0, .ref (sy_ad E 392))] := hl
  unfold m_Model_isHere at h
  refine lv_aload_n hx hb dX12_isHere_0 rfl (lv_at hl 0 rfl) ?_
  refine sy_g11 fx X (sy_OModel_o ht) 17 (by decide) wm_330 (fun _ h9 => h9) rfl dX12_isHere_1 ?_
  refine lv_if_le (tgt := 18) hx hb dX12_isHere_4 (by decide) (fun c1 => ?_) (fun c1 => ?_)
  · have h := sy_t c1 h
    refine lv_iconst (v := 0) hx hb dX12_isHere_18 (by decide) ?_
    exact sy_zret fx X hr hlk (Or.inl rfl) h dX12_isHere_19
  · have h := sy_f c1 h
    refine lv_aload_n hx hb dX12_isHere_7 rfl (lv_at hl 0 rfl) ?_
    refine sy_g11 fx X (sy_OModel_o ht) 19 (by decide) wm_188 (fun _ h9 => h9) rfl dX12_isHere_8 ?_
    refine lv_if_le (tgt := 18) hx hb dX12_isHere_11 (by decide) (fun c2 => ?_) (fun c2 => ?_)
    · have h := sy_t c2 h
      refine lv_iconst (v := 0) hx hb dX12_isHere_18 (by decide) ?_
      exact sy_zret fx X hr hlk (Or.inl rfl) h dX12_isHere_19
    · have h := sy_f c2 h
      refine lv_iconst (v := 1) hx hb dX12_isHere_14 (by decide) ?_
      refine lv_goto (tgt := 19) hx hb dX12_isHere_15 (by decide) ?_
      exact sy_zret fx X hr hlk (Or.inr rfl) h dX12_isHere_19
def m_Model_takesIt (p0 : Int32) (S : sy_St) : sy_R := sy_b (sy_up S 400 ((4 : Int32).toNatClampNeg) p0) fun S1 => sy_b (sy_up S1 400 ((5 : Int32).toNatClampNeg) (-1)) fun S2 => some (0, S2)
theorem cv_Model_takesIt : sy_cV RX12 yX12_takesIt cX12_takesIt 2 none 1 := ⟨wm_611, wm_612, wm_5, wm_613, by decide +kernel⟩
set_option maxRecDepth 100000 in
set_option maxHeartbeats 40000000 in
theorem c_Model_takesIt (l : Launch) {E : sy_ET} (ht : sy_OModel E) {p0 : Int32} {S S' : sy_St} {r : Int32} (h : m_Model_takesIt p0 S = some (r, S')) : sy_MV l yX12_takesIt cX12_takesIt 2 0 0 [.ref (sy_ad E 392), .int p0] E S S' := by
  refine sy_MV_of RX12 pn_12 rfl (Nat.le_of_ble_eq_true rfl) (fun p e s m args below meth c A ls fx hr hlk hA X hl => ?_)
  have hx := fx.1
  have hb := fx.2.1
  have hown := fx.2.2.2.1
  have hts := fx.2.2.2.2
  have hl : lv_has ls 2 [(0, .ref (sy_ad E 392)), (1, .int p0)] := hl
  unfold m_Model_takesIt at h
  refine lv_aload_n hx hb dX12_takesIt_0 rfl (lv_at hl 0 rfl) ?_
  refine sy_q11 fx X (sy_OModel_o ht) 22 (by decide) wm_174 (fun _ h9 => h9) rfl (sy_OModel_r22 ht) dX12_takesIt_1 ?_
  refine lv_iconst (v := 4) hx hb dX12_takesIt_4 (by decide) ?_
  refine lv_iload_n hx hb dX12_takesIt_5 rfl (lv_at hl 1 rfl) ?_
  obtain ⟨S1, hS1, h⟩ := sy_b_e h
  refine sy_iast fx X (sy_OModel_a22 ht) (by decide) hS1 dX12_takesIt_6 (fun H locs X => ?_)
  refine lv_aload_n hx hb dX12_takesIt_7 rfl (lv_at hl 0 rfl) ?_
  refine sy_q11 fx X (sy_OModel_o ht) 22 (by decide) wm_174 (fun _ h9 => h9) rfl (sy_OModel_r22 ht) dX12_takesIt_8 ?_
  refine lv_iconst (v := 5) hx hb dX12_takesIt_11 (by decide) ?_
  refine lv_iconst (v := (-1)) hx hb dX12_takesIt_12 (by decide) ?_
  obtain ⟨S2, hS2, h⟩ := sy_b_e h
  refine sy_iast fx X (sy_OModel_a22 ht) (by decide) hS2 dX12_takesIt_13 (fun H locs X => ?_)
  exact sy_vret fx X hr hlk h dX12_takesIt_14
def m_Model_offers (a0 : Nat) (n0 : Nat) (p1 : Int32) (p2 : Int32) (S : sy_St) : sy_R := sy_c (m_Model_falls a0 n0 p1 p2 S) fun r2 S1 => if r2 = 0 then (some (0, S1)) else (sy_b (25 + p1 : Int32) fun x5 => sy_g (sy_in x5 n0) <| sy_g (sy_in (25 + p1) n0) <| sy_b (sy_up S1 a0 ((25 + p1).toNatClampNeg) ((S1 a0 x5.toNatClampNeg) ||| (1 <<< (p2 &&& 31)))) fun S8 => sy_g (sy_in 4 n0) <| sy_b (sy_up S8 a0 ((4 : Int32).toNatClampNeg) p1) fun S10 => sy_g (sy_in 5 n0) <| sy_b (sy_up S10 a0 ((5 : Int32).toNatClampNeg) (-1)) fun S12 => some (1, S12))
theorem cv_Model_offers : sy_cV RX12 yX12_offers cX12_offers 4 (some .boolean) 3 := ⟨wm_574, wm_575, wm_5, wm_576, by decide +kernel⟩
set_option maxRecDepth 100000 in
set_option maxHeartbeats 40000000 in
theorem c_Model_offers (l : Launch) {E : sy_ET} {a0 : Nat} {n0 : Nat} (ht : sy_OModel E) (h0 : sy_isI E a0 n0) {p1 : Int32} {p2 : Int32} {S S' : sy_St} {r : Int32} (h : m_Model_offers a0 n0 p1 p2 S = some (r, S')) : sy_MI l yX12_offers cX12_offers 4 (some .boolean) 2 44 [.ref (sy_ad E 392), .ref (sy_ad E a0), .int p1, .int p2] E S r S' := by
  refine sy_MI_of RX12 pn_12 rfl (Nat.le_of_ble_eq_true rfl) (fun p e s m args below meth c A ls fx hr hlk hA X hl => ?_)
  have hx := fx.1
  have hb := fx.2.1
  have hown := fx.2.2.2.1
  have hts := fx.2.2.2.2
  have hl : lv_has ls 4 [(0, .ref (sy_ad E 392)), (1, .ref (sy_ad E a0)), (2, .int p1), (3, .int p2)] := hl
  unfold m_Model_offers at h
  refine lv_aload_n hx hb dX12_offers_0 rfl (lv_at hl 0 rfl) ?_
  refine lv_aload_n hx hb dX12_offers_1 rfl (lv_at hl 1 rfl) ?_
  refine lv_iload_n hx hb dX12_offers_2 rfl (lv_at hl 2 rfl) ?_
  refine lv_iload_n hx hb dX12_offers_3 rfl (lv_at hl 3 rfl) ?_
  obtain ⟨r2, S1, hc3, h⟩ := sy_c_e h
  refine sy_vi (rest := []) fx hA X hl.1 (sy_OModel_o ht) (sy_en11 (sy_OModel_o ht).2) rfl (c_Model_falls l ht h0 hc3) cv_Model_falls wm_577 ⟨Nat.le_of_ble_eq_true rfl, Nat.le_of_ble_eq_true rfl, Nat.le_refl _, Nat.le_refl _⟩ rfl rfl (Nat.le_of_ble_eq_true rfl) dX12_offers_4 (fun H locs X => ?_)
  refine lv_if_ne (tgt := 12) hx hb dX12_offers_7 (by decide) (fun c4 => ?_) (fun c4 => ?_)
  · have h := sy_f c4 h
    refine lv_aload_n hx hb dX12_offers_12 rfl (lv_at hl 1 rfl) ?_
    refine lv_bipush (v := 25) hx hb dX12_offers_13 (by decide) ?_
    refine lv_iload_n hx hb dX12_offers_15 rfl (lv_at hl 2 rfl) ?_
    refine lv_iadd hx hb dX12_offers_16 ?_
    refine lv_aload_n hx hb dX12_offers_17 rfl (lv_at hl 1 rfl) ?_
    refine lv_bipush (v := 25) hx hb dX12_offers_18 (by decide) ?_
    refine lv_iload_n hx hb dX12_offers_20 rfl (lv_at hl 2 rfl) ?_
    refine lv_iadd hx hb dX12_offers_21 ?_
    obtain ⟨x5, hx5, h⟩ := sy_b_e h
    refine sy_top hx5 ?_
    obtain ⟨g6, h⟩ := sy_g_e h
    refine sy_iald fx X h0 g6 dX12_offers_22 ?_
    refine lv_iconst (v := 1) hx hb dX12_offers_23 (by decide) ?_
    refine lv_iload_n hx hb dX12_offers_24 rfl (lv_at hl 3 rfl) ?_
    refine lv_ishl hx hb dX12_offers_25 ?_
    refine lv_ior hx hb dX12_offers_26 ?_
    obtain ⟨g7, h⟩ := sy_g_e h
    obtain ⟨S8, hS8, h⟩ := sy_b_e h
    refine sy_iast fx X h0 g7 hS8 dX12_offers_27 (fun H locs X => ?_)
    refine lv_aload_n hx hb dX12_offers_28 rfl (lv_at hl 1 rfl) ?_
    refine lv_iconst (v := 4) hx hb dX12_offers_29 (by decide) ?_
    refine lv_iload_n hx hb dX12_offers_30 rfl (lv_at hl 2 rfl) ?_
    obtain ⟨g9, h⟩ := sy_g_e h
    obtain ⟨S10, hS10, h⟩ := sy_b_e h
    refine sy_iast fx X h0 g9 hS10 dX12_offers_31 (fun H locs X => ?_)
    refine lv_aload_n hx hb dX12_offers_32 rfl (lv_at hl 1 rfl) ?_
    refine lv_iconst (v := 5) hx hb dX12_offers_33 (by decide) ?_
    refine lv_iconst (v := (-1)) hx hb dX12_offers_34 (by decide) ?_
    obtain ⟨g11, h⟩ := sy_g_e h
    obtain ⟨S12, hS12, h⟩ := sy_b_e h
    refine sy_iast fx X h0 g11 hS12 dX12_offers_35 (fun H locs X => ?_)
    refine lv_iconst (v := 1) hx hb dX12_offers_36 (by decide) ?_
    exact sy_zret fx X hr hlk (Or.inr rfl) h dX12_offers_37
  · have h := sy_t c4 h
    refine lv_iconst (v := 0) hx hb dX12_offers_10 (by decide) ?_
    exact sy_zret fx X hr hlk (Or.inl rfl) h dX12_offers_11
def m_Model_note_J49 (S : sy_St) : sy_R := sy_c (m_Model_copy 400 31 404 1860 0 (31 * (S 392 26)) S) fun r10 S9 => sy_b (sy_up S9 392 26 ((S9 392 26) + 1)) fun S12 => some (0, S12)
def m_Model_note_B11 (kk11 : Int32 → sy_St → sy_R) (y1 : Int32) (S : sy_St) : sy_R := if 1829 ≤ y1 then (sy_b (sy_up S 392 26 ((S 392 26) - 1)) fun S3 => m_Model_note_J49 S3) else (sy_b (y1 + 31 : Int32) fun x4 => sy_g (sy_in x4 1860) <| sy_g (sy_in y1 1860) <| sy_b (sy_up S 404 y1.toNatClampNeg (S 404 x4.toNatClampNeg)) fun S7 => sy_b (y1 + 1 : Int32) fun x8 => kk11 x8 S7)
def m_Model_note (S : sy_St) : sy_R := if (S 392 26) = 60 then (sy_fix (fun _ _ => none) (m_Model_note_B11) sy_F 0 S) else (m_Model_note_J49 S)
theorem cv_Model_note : sy_cV RX12 yX12_note cX12_note 2 none 0 := ⟨wm_536, wm_537, wm_5, wm_538, by decide +kernel⟩
set_option maxRecDepth 100000 in
set_option maxHeartbeats 40000000 in
theorem c_Model_note (l : Launch) {E : sy_ET} (ht : sy_OModel E) {S S' : sy_St} {r : Int32} (h : m_Model_note S = some (r, S')) : sy_MV l yX12_note cX12_note 2 1 24 [.ref (sy_ad E 392)] E S S' := by
  refine sy_MV_of RX12 pn_12 rfl (Nat.le_of_ble_eq_true rfl) (fun p e s m args below meth c A ls fx hr hlk hA X hl => ?_)
  have hx := fx.1
  have hb := fx.2.1
  have hown := fx.2.2.2.1
  have hts := fx.2.2.2.2
  have hl : lv_has ls 2 [(0, .ref (sy_ad E 392))] := hl
  have J_49 : ∀ (S : sy_St) (H : Heap) (locs : List Loc) (ls : Array Slot), sy_Wd E A s S H locs → lv_has ls 2 [(0, .ref (sy_ad E 392))] → m_Model_note_J49 S = some (r, S') → W p l e (sy_rm 1 24) s m args below meth c H locs 0 0 (MQ below (sy_Qv E A S') args s 0 0 A) (F0 m 49 ls []) := by
    intro  S H locs ls X hl h
    unfold m_Model_note_J49 at h
    refine lv_aload_n hx hb dX12_note_49 rfl (lv_at hl 0 rfl) ?_
    refine sy_q11 fx X (sy_OModel_o ht) 22 (by decide) wm_174 (fun _ h9 => h9) rfl (sy_OModel_r22 ht) dX12_note_50 ?_
    refine lv_iconst (v := 0) hx hb dX12_note_53 (by decide) ?_
    refine lv_aload_n hx hb dX12_note_54 rfl (lv_at hl 0 rfl) ?_
    refine sy_q11 fx X (sy_OModel_o ht) 27 (by decide) wm_178 (fun _ h9 => h9) rfl (sy_OModel_r27 ht) dX12_note_55 ?_
    refine lv_bipush (v := 31) hx hb dX12_note_58 (by decide) ?_
    refine lv_aload_n hx hb dX12_note_60 rfl (lv_at hl 0 rfl) ?_
    refine sy_g11 fx X (sy_OModel_o ht) 26 (by decide) wm_189 (fun _ h9 => h9) rfl dX12_note_61 ?_
    refine lv_imul hx hb dX12_note_64 ?_
    obtain ⟨r10, S9, hc11, h⟩ := sy_c_e h
    refine sy_sv (rest := []) fx hA X hl.1 (c_Model_copy l (sy_OModel_a22 ht) (sy_OModel_a27 ht) hc11) cv_Model_copy wm_539 ⟨Nat.le_of_ble_eq_true rfl, Nat.le_of_ble_eq_true rfl, Nat.le_refl _, Nat.le_refl _⟩ rfl rfl (Nat.le_of_ble_eq_true rfl) dX12_note_65 (fun H locs X => ?_)
    refine lv_aload_n hx hb dX12_note_68 rfl (lv_at hl 0 rfl) ?_
    refine lv_dup hx hb dX12_note_69 rfl ?_
    refine sy_g11 fx X (sy_OModel_o ht) 26 (by decide) wm_189 (fun _ h9 => h9) rfl dX12_note_70 ?_
    refine lv_iconst (v := 1) hx hb dX12_note_73 (by decide) ?_
    refine lv_iadd hx hb dX12_note_74 ?_
    obtain ⟨S12, hS12, h⟩ := sy_b_e h
    refine sy_p11 fx X (sy_OModel_o ht) 26 (by decide) wm_189 (fun _ h9 => h9) rfl (ty := .int) (by decide +kernel) rfl rfl hS12 sy_s11_26 dX12_note_75 (fun H locs X => ?_)
    exact sy_vret fx X hr hlk h dX12_note_78
  have L_11 : ∀ (n11 : Nat) (y1 : Int32) (S : sy_St) (H : Heap) (locs : List Loc) (ls : Array Slot), sy_Wd E A s S H locs → lv_has ls 2 [(0, .ref (sy_ad E 392)), (1, .int y1)] → sy_fix (fun _ _ => none) (m_Model_note_B11) n11 y1 S = some (r, S') → W p l e (sy_rm 1 24) s m args below meth c H locs 0 0 (MQ below (sy_Qv E A S') args s 0 0 A) (F0 m 11 ls []) := by
    intro n11
    induction n11 with
    | zero => intro y1 S H locs ls X hl h; have h9 : (none : sy_R) = some (r, S') := h; cases h9
    | succ n11 ih11 =>
      intro y1 S H locs ls X hl h
      have h : m_Model_note_B11 (sy_fix (fun _ _ => none) (m_Model_note_B11) n11) y1 S = some (r, S') := h
      unfold m_Model_note_B11 at h
      refine lv_iload_n hx hb dX12_note_11 rfl (lv_at hl 1 rfl) ?_
      refine lv_sipush (v := 1829) hx hb dX12_note_12 (by decide) ?_
      refine lv_icmp_ge (tgt := 39) hx hb dX12_note_15 (by decide) (fun c2 => ?_) (fun c2 => ?_)
      · have h := sy_t c2 h
        refine lv_aload_n hx hb dX12_note_39 rfl (lv_at hl 0 rfl) ?_
        refine lv_dup hx hb dX12_note_40 rfl ?_
        refine sy_g11 fx X (sy_OModel_o ht) 26 (by decide) wm_189 (fun _ h9 => h9) rfl dX12_note_41 ?_
        refine lv_iconst (v := 1) hx hb dX12_note_44 (by decide) ?_
        refine lv_isub hx hb dX12_note_45 ?_
        obtain ⟨S3, hS3, h⟩ := sy_b_e h
        refine sy_p11 fx X (sy_OModel_o ht) 26 (by decide) wm_189 (fun _ h9 => h9) rfl (ty := .int) (by decide +kernel) rfl rfl hS3 sy_s11_26 dX12_note_46 (fun H locs X => ?_)
        exact J_49 S3 _ _ _ X (lv_sub hl [0] rfl) h
      · have h := sy_f c2 h
        refine lv_aload_n hx hb dX12_note_18 rfl (lv_at hl 0 rfl) ?_
        refine sy_q11 fx X (sy_OModel_o ht) 27 (by decide) wm_178 (fun _ h9 => h9) rfl (sy_OModel_r27 ht) dX12_note_19 ?_
        refine lv_iload_n hx hb dX12_note_22 rfl (lv_at hl 1 rfl) ?_
        refine lv_aload_n hx hb dX12_note_23 rfl (lv_at hl 0 rfl) ?_
        refine sy_q11 fx X (sy_OModel_o ht) 27 (by decide) wm_178 (fun _ h9 => h9) rfl (sy_OModel_r27 ht) dX12_note_24 ?_
        refine lv_iload_n hx hb dX12_note_27 rfl (lv_at hl 1 rfl) ?_
        refine lv_bipush (v := 31) hx hb dX12_note_28 (by decide) ?_
        refine lv_iadd hx hb dX12_note_30 ?_
        obtain ⟨x4, hx4, h⟩ := sy_b_e h
        refine sy_top hx4 ?_
        obtain ⟨g5, h⟩ := sy_g_e h
        refine sy_iald fx X (sy_OModel_a27 ht) g5 dX12_note_31 ?_
        obtain ⟨g6, h⟩ := sy_g_e h
        obtain ⟨S7, hS7, h⟩ := sy_b_e h
        refine sy_iast fx X (sy_OModel_a27 ht) g6 hS7 dX12_note_32 (fun H locs X => ?_)
        obtain ⟨x8, hx8, h⟩ := sy_b_e h
        refine lv_iinc (v := x8) (lv' := [(1, .int x8), (0, .ref (sy_ad E 392))]) hx hb dX12_note_33 hl (k := 1) rfl (by rw [hx8]; rfl) (by decide) rfl (fun ls hl => ?_)
        refine lv_goto (tgt := 11) hx hb dX12_note_36 (by decide) ?_
        exact ih11 x8 S7 _ _ _ X (lv_sub hl [1, 0] rfl) h
  unfold m_Model_note at h
  refine lv_aload_n hx hb dX12_note_0 rfl (lv_at hl 0 rfl) ?_
  refine sy_g11 fx X (sy_OModel_o ht) 26 (by decide) wm_189 (fun _ h9 => h9) rfl dX12_note_1 ?_
  refine lv_bipush (v := 60) hx hb dX12_note_4 (by decide) ?_
  refine lv_icmp_ne (tgt := 49) hx hb dX12_note_6 (by decide) (fun c1 => ?_) (fun c1 => ?_)
  · have h := sy_f c1 h
    exact J_49 S _ _ _ X (lv_sub hl [0] rfl) h
  · have h := sy_t c1 h
    refine lv_iconst (v := 0) hx hb dX12_note_9 (by decide) ?_
    refine lv_istore_n (lv' := [(1, .int 0), (0, .ref (sy_ad E 392))]) hx hb dX12_note_10 rfl hl (by decide) rfl (fun ls hl => ?_)
    exact L_11 sy_F 0 S _ _ _ X (lv_sub hl [1, 0] rfl) h
def m_Model_weightOf (a0 : Nat) (n0 : Nat) (S : sy_St) : sy_R := if (S 392 17) = 0 then (some (0, S)) else (sy_g (sy_in 0 n0) <| sy_b (S 392 17 : Int32) fun x3 => sy_g (¬ x3 = 0) <| sy_b ((S a0 ((0 : Int32).toNatClampNeg)) - (S a0 ((0 : Int32).toNatClampNeg)) / x3 * x3 : Int32) fun x5 => sy_g (sy_in x5 12) <| some (S 397 x5.toNatClampNeg, S))
theorem cv_Model_weightOf : sy_cV RX12 yX12_weightOf cX12_weightOf 2 (some .int) 1 := ⟨wm_422, wm_423, wm_5, wm_424, by decide +kernel⟩
set_option maxRecDepth 100000 in
set_option maxHeartbeats 40000000 in
theorem c_Model_weightOf (l : Launch) {E : sy_ET} {a0 : Nat} {n0 : Nat} (ht : sy_OModel E) (h0 : sy_isI E a0 n0) {S S' : sy_St} {r : Int32} (h : m_Model_weightOf a0 n0 S = some (r, S')) : sy_MI l yX12_weightOf cX12_weightOf 2 (some .int) 0 0 [.ref (sy_ad E 392), .ref (sy_ad E a0)] E S r S' := by
  refine sy_MI_of RX12 pn_12 rfl (Nat.le_of_ble_eq_true rfl) (fun p e s m args below meth c A ls fx hr hlk hA X hl => ?_)
  have hx := fx.1
  have hb := fx.2.1
  have hown := fx.2.2.2.1
  have hts := fx.2.2.2.2
  have hl : lv_has ls 2 [(0, .ref (sy_ad E 392)), (1, .ref (sy_ad E a0))] := hl
  unfold m_Model_weightOf at h
  refine lv_aload_n hx hb dX12_weightOf_0 rfl (lv_at hl 0 rfl) ?_
  refine sy_g11 fx X (sy_OModel_o ht) 17 (by decide) wm_330 (fun _ h9 => h9) rfl dX12_weightOf_1 ?_
  refine lv_if_ne (tgt := 11) hx hb dX12_weightOf_4 (by decide) (fun c1 => ?_) (fun c1 => ?_)
  · have h := sy_f c1 h
    refine lv_aload_n hx hb dX12_weightOf_11 rfl (lv_at hl 0 rfl) ?_
    refine sy_q11 fx X (sy_OModel_o ht) 18 (by decide) wm_171 (fun _ h9 => h9) rfl (sy_OModel_r18 ht) dX12_weightOf_12 ?_
    refine lv_aload_n hx hb dX12_weightOf_15 rfl (lv_at hl 1 rfl) ?_
    refine lv_iconst (v := 0) hx hb dX12_weightOf_16 (by decide) ?_
    obtain ⟨g2, h⟩ := sy_g_e h
    refine sy_iald fx X h0 g2 dX12_weightOf_17 ?_
    refine lv_aload_n hx hb dX12_weightOf_18 rfl (lv_at hl 0 rfl) ?_
    refine sy_g11 fx X (sy_OModel_o ht) 17 (by decide) wm_330 (fun _ h9 => h9) rfl dX12_weightOf_19 ?_
    obtain ⟨x3, hx3, h⟩ := sy_b_e h
    refine sy_top hx3 ?_
    obtain ⟨g4, h⟩ := sy_g_e h
    refine lv_irem hx hb dX12_weightOf_22 g4 ?_
    obtain ⟨x5, hx5, h⟩ := sy_b_e h
    refine sy_top hx5 ?_
    obtain ⟨g6, h⟩ := sy_g_e h
    refine sy_iald fx X (sy_OModel_a18 ht) g6 dX12_weightOf_23 ?_
    exact sy_iret fx X hr hlk h dX12_weightOf_24
  · have h := sy_t c1 h
    refine lv_iconst (v := 0) hx hb dX12_weightOf_7 (by decide) ?_
    refine lv_goto (tgt := 24) hx hb dX12_weightOf_8 (by decide) ?_
    exact sy_iret fx X hr hlk h dX12_weightOf_24
def m_Model_kindOf (p0 : Int32) (S : sy_St) : sy_R := sy_b (5 * p0 : Int32) fun x1 => sy_g (sy_in x1 30) <| some (S 398 x1.toNatClampNeg, S)
theorem cv_Model_kindOf : sy_cV RX12 yX12_kindOf cX12_kindOf 2 (some .int) 1 := ⟨wm_434, wm_435, wm_5, wm_436, by decide +kernel⟩
set_option maxRecDepth 100000 in
set_option maxHeartbeats 40000000 in
theorem c_Model_kindOf (l : Launch) {E : sy_ET} (ht : sy_OModel E) {p0 : Int32} {S S' : sy_St} {r : Int32} (h : m_Model_kindOf p0 S = some (r, S')) : sy_MI l yX12_kindOf cX12_kindOf 2 (some .int) 0 0 [.ref (sy_ad E 392), .int p0] E S r S' := by
  refine sy_MI_of RX12 pn_12 rfl (Nat.le_of_ble_eq_true rfl) (fun p e s m args below meth c A ls fx hr hlk hA X hl => ?_)
  have hx := fx.1
  have hb := fx.2.1
  have hown := fx.2.2.2.1
  have hts := fx.2.2.2.2
  have hl : lv_has ls 2 [(0, .ref (sy_ad E 392)), (1, .int p0)] := hl
  unfold m_Model_kindOf at h
  refine lv_aload_n hx hb dX12_kindOf_0 rfl (lv_at hl 0 rfl) ?_
  refine sy_q11 fx X (sy_OModel_o ht) 20 (by decide) wm_172 (fun _ h9 => h9) rfl (sy_OModel_r20 ht) dX12_kindOf_1 ?_
  refine lv_iconst (v := 5) hx hb dX12_kindOf_4 (by decide) ?_
  refine lv_iload_n hx hb dX12_kindOf_5 rfl (lv_at hl 1 rfl) ?_
  refine lv_imul hx hb dX12_kindOf_6 ?_
  obtain ⟨x1, hx1, h⟩ := sy_b_e h
  refine sy_top hx1 ?_
  obtain ⟨g2, h⟩ := sy_g_e h
  refine sy_iald fx X (sy_OModel_a20 ht) g2 dX12_kindOf_7 ?_
  exact sy_iret fx X hr hlk h dX12_kindOf_8
def m_Model_forceOf_J46 (a0 : Nat) (n0 : Nat) (y2 : Int32) (y3 : Int32) (t0 : Int32) (S : sy_St) : sy_R := sy_c (m_Model_kindOf y2 S) fun r10 S9 => if r10 = 2 then (sy_b (19 + y2 : Int32) fun x13 => sy_g (sy_in x13 n0) <| if (S9 a0 x13.toNatClampNeg) ≤ 0 then (sy_b ((5 * y2) + 1 : Int32) fun x16 => sy_g (sy_in x16 30) <| some (S9 398 x16.toNatClampNeg, S9)) else (some (0, S9))) else if r10 = 3 then (some (t0, S9)) else if r10 = 4 then (sy_g (sy_in 3 n0) <| if (S9 a0 ((3 : Int32).toNatClampNeg)) ≤ 0 then (some (0, S9)) else (some (t0 + 2, S9))) else (some (y3, S9))
def m_Model_forceOf_J29 (a0 : Nat) (n0 : Nat) (y2 : Int32) (t0 : Int32) (S : sy_St) : sy_R := sy_g (sy_in 0 n0) <| if ((S a0 ((0 : Int32).toNatClampNeg)) - (S a0 ((0 : Int32).toNatClampNeg)) / 3 * 3) = 2 then (m_Model_forceOf_J46 a0 n0 y2 t0 (t0 / 2) S) else (m_Model_forceOf_J46 a0 n0 y2 t0 t0 S)
def m_Model_forceOf (a0 : Nat) (n0 : Nat) (p1 : Int32) (S : sy_St) : sy_R := sy_b ((5 * p1) + 1 : Int32) fun x1 => sy_g (sy_in x1 30) <| sy_b (7 + p1 : Int32) fun x3 => sy_g (sy_in x3 n0) <| sy_b ((S 398 x1.toNatClampNeg) - ((S a0 x3.toNatClampNeg) / 2) : Int32) fun x5 => if 0 ≤ x5 then (m_Model_forceOf_J29 a0 n0 p1 x5 S) else (m_Model_forceOf_J29 a0 n0 p1 0 S)
theorem cv_Model_forceOf : sy_cV RX12 yX12_forceOf cX12_forceOf 5 (some .int) 2 := ⟨wm_430, wm_431, wm_5, wm_432, by decide +kernel⟩
set_option maxRecDepth 100000 in
set_option maxHeartbeats 40000000 in
theorem c_Model_forceOf (l : Launch) {E : sy_ET} {a0 : Nat} {n0 : Nat} (ht : sy_OModel E) (h0 : sy_isI E a0 n0) {p1 : Int32} {S S' : sy_St} {r : Int32} (h : m_Model_forceOf a0 n0 p1 S = some (r, S')) : sy_MI l yX12_forceOf cX12_forceOf 5 (some .int) 1 21 [.ref (sy_ad E 392), .ref (sy_ad E a0), .int p1] E S r S' := by
  refine sy_MI_of RX12 pn_12 rfl (Nat.le_of_ble_eq_true rfl) (fun p e s m args below meth c A ls fx hr hlk hA X hl => ?_)
  have hx := fx.1
  have hb := fx.2.1
  have hown := fx.2.2.2.1
  have hts := fx.2.2.2.2
  have hl : lv_has ls 5 [(0, .ref (sy_ad E 392)), (1, .ref (sy_ad E a0)), (2, .int p1)] := hl
  have J_46 : ∀ (y2 y3 t0 : Int32) (S : sy_St) (H : Heap) (locs : List Loc) (ls : Array Slot), sy_Wd E A s S H locs → lv_has ls 5 [(0, .ref (sy_ad E 392)), (1, .ref (sy_ad E a0)), (2, .int y2), (3, .int y3)] → m_Model_forceOf_J46 a0 n0 y2 y3 t0 S = some (r, S') → W p l e (sy_rm 1 21) s m args below meth c H locs 0 0 (MQ below (sy_Qi E A r S') args s 0 0 A) (F0 m 46 ls [.int t0]) := by
    intro y2 y3 t0 S H locs ls X hl h
    unfold m_Model_forceOf_J46 at h
    refine lv_istore (lv' := [(4, .int t0), (0, .ref (sy_ad E 392)), (1, .ref (sy_ad E a0)), (2, .int y2), (3, .int y3)]) hx hb dX12_forceOf_46 hl (by decide) rfl (fun ls hl => ?_)
    refine lv_aload_n hx hb dX12_forceOf_48 rfl (lv_at hl 1 rfl) ?_
    refine lv_iload_n hx hb dX12_forceOf_49 rfl (lv_at hl 3 rfl) ?_
    obtain ⟨r10, S9, hc11, h⟩ := sy_c_e h
    refine sy_vi (rest := []) fx hA X hl.1 (sy_OModel_o ht) (sy_en11 (sy_OModel_o ht).2) rfl (c_Model_kindOf l ht hc11) cv_Model_kindOf wm_433 ⟨Nat.le_of_ble_eq_true rfl, Nat.le_of_ble_eq_true rfl, Nat.le_refl _, Nat.le_refl _⟩ rfl rfl (Nat.le_of_ble_eq_true rfl) dX12_forceOf_50 (fun H locs X => ?_)
    rcases Decidable.em (r10 = 2) with c12 | c12
    · have h := sy_t c12 h
      refine sy_top c12.symm ?_
      refine lv_tableIn (off := 27) (tgt := 80) hx hb dX12_forceOf_53 (by decide) (by decide) rfl (by decide) ?_
      refine lv_aload_n hx hb dX12_forceOf_80 rfl (lv_at hl 2 rfl) ?_
      refine lv_bipush (v := 19) hx hb dX12_forceOf_81 (by decide) ?_
      refine lv_iload_n hx hb dX12_forceOf_83 rfl (lv_at hl 3 rfl) ?_
      refine lv_iadd hx hb dX12_forceOf_84 ?_
      obtain ⟨x13, hx13, h⟩ := sy_b_e h
      refine sy_top hx13 ?_
      obtain ⟨g14, h⟩ := sy_g_e h
      refine sy_iald fx X h0 g14 dX12_forceOf_85 ?_
      refine lv_if_le (tgt := 93) hx hb dX12_forceOf_86 (by decide) (fun c15 => ?_) (fun c15 => ?_)
      · have h := sy_t c15 h
        refine lv_aload_n hx hb dX12_forceOf_93 rfl (lv_at hl 1 rfl) ?_
        refine sy_q11 fx X (sy_OModel_o ht) 20 (by decide) wm_172 (fun _ h9 => h9) rfl (sy_OModel_r20 ht) dX12_forceOf_94 ?_
        refine lv_iconst (v := 5) hx hb dX12_forceOf_97 (by decide) ?_
        refine lv_iload_n hx hb dX12_forceOf_98 rfl (lv_at hl 3 rfl) ?_
        refine lv_imul hx hb dX12_forceOf_99 ?_
        refine lv_iconst (v := 1) hx hb dX12_forceOf_100 (by decide) ?_
        refine lv_iadd hx hb dX12_forceOf_101 ?_
        obtain ⟨x16, hx16, h⟩ := sy_b_e h
        refine sy_top hx16 ?_
        obtain ⟨g17, h⟩ := sy_g_e h
        refine sy_iald fx X (sy_OModel_a20 ht) g17 dX12_forceOf_102 ?_
        exact sy_iret fx X hr hlk h dX12_forceOf_103
      · have h := sy_f c15 h
        refine lv_iconst (v := 0) hx hb dX12_forceOf_89 (by decide) ?_
        refine lv_goto (tgt := 103) hx hb dX12_forceOf_90 (by decide) ?_
        exact sy_iret fx X hr hlk h dX12_forceOf_103
    · have h := sy_f c12 h
      rcases Decidable.em (r10 = 3) with c18 | c18
      · have h := sy_t c18 h
        refine sy_top c18.symm ?_
        refine lv_tableIn (off := 51) (tgt := 104) hx hb dX12_forceOf_53 (by decide) (by decide) rfl (by decide) ?_
        refine lv_iload hx hb dX12_forceOf_104 (lv_at hl 0 rfl) ?_
        exact sy_iret fx X hr hlk h dX12_forceOf_106
      · have h := sy_f c18 h
        rcases Decidable.em (r10 = 4) with c19 | c19
        · have h := sy_t c19 h
          refine sy_top c19.symm ?_
          refine lv_tableIn (off := 54) (tgt := 107) hx hb dX12_forceOf_53 (by decide) (by decide) rfl (by decide) ?_
          refine lv_aload_n hx hb dX12_forceOf_107 rfl (lv_at hl 2 rfl) ?_
          refine lv_iconst (v := 3) hx hb dX12_forceOf_108 (by decide) ?_
          obtain ⟨g20, h⟩ := sy_g_e h
          refine sy_iald fx X h0 g20 dX12_forceOf_109 ?_
          refine lv_if_le (tgt := 120) hx hb dX12_forceOf_110 (by decide) (fun c21 => ?_) (fun c21 => ?_)
          · have h := sy_t c21 h
            refine lv_iconst (v := 0) hx hb dX12_forceOf_120 (by decide) ?_
            exact sy_iret fx X hr hlk h dX12_forceOf_121
          · have h := sy_f c21 h
            refine lv_iload hx hb dX12_forceOf_113 (lv_at hl 0 rfl) ?_
            refine lv_iconst (v := 2) hx hb dX12_forceOf_115 (by decide) ?_
            refine lv_iadd hx hb dX12_forceOf_116 ?_
            refine lv_goto (tgt := 121) hx hb dX12_forceOf_117 (by decide) ?_
            exact sy_iret fx X hr hlk h dX12_forceOf_121
        · have h := sy_f c19 h
          refine lv_tableOut (tgt := 122) hx hb dX12_forceOf_53 (by have ec12 := sy_ne_toInt c12 (v := 2) (n := 2) (by decide); have ec18 := sy_ne_toInt c18 (v := 3) (n := 3) (by decide); have ec19 := sy_ne_toInt c19 (v := 4) (n := 4) (by decide); omega) (by decide) ?_
          refine lv_iload_n hx hb dX12_forceOf_122 rfl (lv_at hl 4 rfl) ?_
          exact sy_iret fx X hr hlk h dX12_forceOf_123
  have J_29 : ∀ (y2 t0 : Int32) (S : sy_St) (H : Heap) (locs : List Loc) (ls : Array Slot), sy_Wd E A s S H locs → lv_has ls 5 [(0, .ref (sy_ad E 392)), (1, .ref (sy_ad E a0)), (2, .int y2)] → m_Model_forceOf_J29 a0 n0 y2 t0 S = some (r, S') → W p l e (sy_rm 1 21) s m args below meth c H locs 0 0 (MQ below (sy_Qi E A r S') args s 0 0 A) (F0 m 29 ls [.int t0]) := by
    intro y2 t0 S H locs ls X hl h
    unfold m_Model_forceOf_J29 at h
    refine lv_istore_n (lv' := [(3, .int t0), (0, .ref (sy_ad E 392)), (1, .ref (sy_ad E a0)), (2, .int y2)]) hx hb dX12_forceOf_29 rfl hl (by decide) rfl (fun ls hl => ?_)
    refine lv_aload_n hx hb dX12_forceOf_30 rfl (lv_at hl 2 rfl) ?_
    refine lv_iconst (v := 0) hx hb dX12_forceOf_31 (by decide) ?_
    obtain ⟨g7, h⟩ := sy_g_e h
    refine sy_iald fx X h0 g7 dX12_forceOf_32 ?_
    refine lv_iconst (v := 3) hx hb dX12_forceOf_33 (by decide) ?_
    refine lv_irem hx hb dX12_forceOf_34 (by decide) ?_
    refine lv_iconst (v := 2) hx hb dX12_forceOf_35 (by decide) ?_
    refine lv_icmp_ne (tgt := 45) hx hb dX12_forceOf_36 (by decide) (fun c8 => ?_) (fun c8 => ?_)
    · have h := sy_f c8 h
      refine lv_iload_n hx hb dX12_forceOf_45 rfl (lv_at hl 0 rfl) ?_
      exact J_46 y2 t0 t0 S _ _ _ X (lv_sub hl [1, 2, 3, 0] rfl) h
    · have h := sy_t c8 h
      refine lv_iload_n hx hb dX12_forceOf_39 rfl (lv_at hl 0 rfl) ?_
      refine lv_iconst (v := 2) hx hb dX12_forceOf_40 (by decide) ?_
      refine lv_idiv hx hb dX12_forceOf_41 (by decide) ?_
      refine lv_goto (tgt := 46) hx hb dX12_forceOf_42 (by decide) ?_
      exact J_46 y2 t0 (t0 / 2) S _ _ _ X (lv_sub hl [1, 2, 3, 0] rfl) h
  unfold m_Model_forceOf at h
  refine lv_aload_n hx hb dX12_forceOf_0 rfl (lv_at hl 0 rfl) ?_
  refine sy_q11 fx X (sy_OModel_o ht) 20 (by decide) wm_172 (fun _ h9 => h9) rfl (sy_OModel_r20 ht) dX12_forceOf_1 ?_
  refine lv_iconst (v := 5) hx hb dX12_forceOf_4 (by decide) ?_
  refine lv_iload_n hx hb dX12_forceOf_5 rfl (lv_at hl 2 rfl) ?_
  refine lv_imul hx hb dX12_forceOf_6 ?_
  refine lv_iconst (v := 1) hx hb dX12_forceOf_7 (by decide) ?_
  refine lv_iadd hx hb dX12_forceOf_8 ?_
  obtain ⟨x1, hx1, h⟩ := sy_b_e h
  refine sy_top hx1 ?_
  obtain ⟨g2, h⟩ := sy_g_e h
  refine sy_iald fx X (sy_OModel_a20 ht) g2 dX12_forceOf_9 ?_
  refine lv_aload_n hx hb dX12_forceOf_10 rfl (lv_at hl 1 rfl) ?_
  refine lv_bipush (v := 7) hx hb dX12_forceOf_11 (by decide) ?_
  refine lv_iload_n hx hb dX12_forceOf_13 rfl (lv_at hl 2 rfl) ?_
  refine lv_iadd hx hb dX12_forceOf_14 ?_
  obtain ⟨x3, hx3, h⟩ := sy_b_e h
  refine sy_top hx3 ?_
  obtain ⟨g4, h⟩ := sy_g_e h
  refine sy_iald fx X h0 g4 dX12_forceOf_15 ?_
  refine lv_iconst (v := 2) hx hb dX12_forceOf_16 (by decide) ?_
  refine lv_idiv hx hb dX12_forceOf_17 (by decide) ?_
  refine lv_isub hx hb dX12_forceOf_18 ?_
  obtain ⟨x5, hx5, h⟩ := sy_b_e h
  refine sy_top hx5 ?_
  refine lv_istore_n (lv' := [(3, .int x5), (0, .ref (sy_ad E 392)), (1, .ref (sy_ad E a0)), (2, .int p1)]) hx hb dX12_forceOf_19 rfl hl (by decide) rfl (fun ls hl => ?_)
  refine lv_iload_n hx hb dX12_forceOf_20 rfl (lv_at hl 0 rfl) ?_
  refine lv_if_ge (tgt := 28) hx hb dX12_forceOf_21 (by decide) (fun c6 => ?_) (fun c6 => ?_)
  · have h := sy_t c6 h
    refine lv_iload_n hx hb dX12_forceOf_28 rfl (lv_at hl 0 rfl) ?_
    exact J_29 p1 x5 S _ _ _ X (lv_sub hl [1, 2, 3] rfl) h
  · have h := sy_f c6 h
    refine lv_iconst (v := 0) hx hb dX12_forceOf_24 (by decide) ?_
    refine lv_goto (tgt := 29) hx hb dX12_forceOf_25 (by decide) ?_
    exact J_29 p1 0 S _ _ _ X (lv_sub hl [1, 2, 3] rfl) h
def m_Model_forceOfAll_J19 (a0 : Nat) (n0 : Nat) (t0 : Int32) (S : sy_St) : sy_R := sy_g (sy_in 5 n0) <| if (S a0 ((5 : Int32).toNatClampNeg)) = (-1) then (some (t0, S)) else (sy_g (sy_in 5 n0) <| sy_c (m_Model_forceOf a0 n0 (S a0 ((5 : Int32).toNatClampNeg)) S) fun r11 S10 => some (t0 + r11, S10))
def m_Model_forceOfAll (a0 : Nat) (n0 : Nat) (S : sy_St) : sy_R := sy_g (sy_in 4 n0) <| if (S a0 ((4 : Int32).toNatClampNeg)) = (-1) then (m_Model_forceOfAll_J19 a0 n0 0 S) else (sy_g (sy_in 4 n0) <| sy_c (m_Model_forceOf a0 n0 (S a0 ((4 : Int32).toNatClampNeg)) S) fun r5 S4 => m_Model_forceOfAll_J19 a0 n0 r5 S4)
theorem cv_Model_forceOfAll : sy_cV RX12 yX12_forceOfAll cX12_forceOfAll 3 (some .int) 1 := ⟨wm_426, wm_427, wm_5, wm_428, by decide +kernel⟩
set_option maxRecDepth 100000 in
set_option maxHeartbeats 40000000 in
theorem c_Model_forceOfAll (l : Launch) {E : sy_ET} {a0 : Nat} {n0 : Nat} (ht : sy_OModel E) (h0 : sy_isI E a0 n0) {S S' : sy_St} {r : Int32} (h : m_Model_forceOfAll a0 n0 S = some (r, S')) : sy_MI l yX12_forceOfAll cX12_forceOfAll 3 (some .int) 2 45 [.ref (sy_ad E 392), .ref (sy_ad E a0)] E S r S' := by
  refine sy_MI_of RX12 pn_12 rfl (Nat.le_of_ble_eq_true rfl) (fun p e s m args below meth c A ls fx hr hlk hA X hl => ?_)
  have hx := fx.1
  have hb := fx.2.1
  have hown := fx.2.2.2.1
  have hts := fx.2.2.2.2
  have hl : lv_has ls 3 [(0, .ref (sy_ad E 392)), (1, .ref (sy_ad E a0))] := hl
  have J_19 : ∀ (t0 : Int32) (S : sy_St) (H : Heap) (locs : List Loc) (ls : Array Slot), sy_Wd E A s S H locs → lv_has ls 3 [(0, .ref (sy_ad E 392)), (1, .ref (sy_ad E a0))] → m_Model_forceOfAll_J19 a0 n0 t0 S = some (r, S') → W p l e (sy_rm 2 45) s m args below meth c H locs 0 0 (MQ below (sy_Qi E A r S') args s 0 0 A) (F0 m 19 ls [.int t0]) := by
    intro t0 S H locs ls X hl h
    unfold m_Model_forceOfAll_J19 at h
    refine lv_istore_n (lv' := [(2, .int t0), (0, .ref (sy_ad E 392)), (1, .ref (sy_ad E a0))]) hx hb dX12_forceOfAll_19 rfl hl (by decide) rfl (fun ls hl => ?_)
    refine lv_aload_n hx hb dX12_forceOfAll_20 rfl (lv_at hl 2 rfl) ?_
    refine lv_iconst (v := 5) hx hb dX12_forceOfAll_21 (by decide) ?_
    obtain ⟨g7, h⟩ := sy_g_e h
    refine sy_iald fx X h0 g7 dX12_forceOfAll_22 ?_
    refine lv_iconst (v := (-1)) hx hb dX12_forceOfAll_23 (by decide) ?_
    refine lv_icmp_ne (tgt := 31) hx hb dX12_forceOfAll_24 (by decide) (fun c8 => ?_) (fun c8 => ?_)
    · have h := sy_f c8 h
      refine lv_iload_n hx hb dX12_forceOfAll_31 rfl (lv_at hl 0 rfl) ?_
      refine lv_aload_n hx hb dX12_forceOfAll_32 rfl (lv_at hl 1 rfl) ?_
      refine lv_aload_n hx hb dX12_forceOfAll_33 rfl (lv_at hl 2 rfl) ?_
      refine lv_aload_n hx hb dX12_forceOfAll_34 rfl (lv_at hl 2 rfl) ?_
      refine lv_iconst (v := 5) hx hb dX12_forceOfAll_35 (by decide) ?_
      obtain ⟨g9, h⟩ := sy_g_e h
      refine sy_iald fx X h0 g9 dX12_forceOfAll_36 ?_
      obtain ⟨r11, S10, hc12, h⟩ := sy_c_e h
      refine sy_vi (rest := [.int t0]) fx hA X hl.1 (sy_OModel_o ht) (sy_en11 (sy_OModel_o ht).2) rfl (c_Model_forceOf l ht h0 hc12) cv_Model_forceOf wm_429 ⟨Nat.le_of_ble_eq_true rfl, Nat.le_of_ble_eq_true rfl, Nat.le_refl _, Nat.le_refl _⟩ rfl rfl (Nat.le_of_ble_eq_true rfl) dX12_forceOfAll_37 (fun H locs X => ?_)
      refine lv_iadd hx hb dX12_forceOfAll_40 ?_
      exact sy_iret fx X hr hlk h dX12_forceOfAll_41
    · have h := sy_t c8 h
      refine lv_iload_n hx hb dX12_forceOfAll_27 rfl (lv_at hl 0 rfl) ?_
      refine lv_goto (tgt := 41) hx hb dX12_forceOfAll_28 (by decide) ?_
      exact sy_iret fx X hr hlk h dX12_forceOfAll_41
  unfold m_Model_forceOfAll at h
  refine lv_aload_n hx hb dX12_forceOfAll_0 rfl (lv_at hl 1 rfl) ?_
  refine lv_iconst (v := 4) hx hb dX12_forceOfAll_1 (by decide) ?_
  obtain ⟨g1, h⟩ := sy_g_e h
  refine sy_iald fx X h0 g1 dX12_forceOfAll_2 ?_
  refine lv_iconst (v := (-1)) hx hb dX12_forceOfAll_3 (by decide) ?_
  refine lv_icmp_ne (tgt := 11) hx hb dX12_forceOfAll_4 (by decide) (fun c2 => ?_) (fun c2 => ?_)
  · have h := sy_f c2 h
    refine lv_aload_n hx hb dX12_forceOfAll_11 rfl (lv_at hl 0 rfl) ?_
    refine lv_aload_n hx hb dX12_forceOfAll_12 rfl (lv_at hl 1 rfl) ?_
    refine lv_aload_n hx hb dX12_forceOfAll_13 rfl (lv_at hl 1 rfl) ?_
    refine lv_iconst (v := 4) hx hb dX12_forceOfAll_14 (by decide) ?_
    obtain ⟨g3, h⟩ := sy_g_e h
    refine sy_iald fx X h0 g3 dX12_forceOfAll_15 ?_
    obtain ⟨r5, S4, hc6, h⟩ := sy_c_e h
    refine sy_vi (rest := []) fx hA X hl.1 (sy_OModel_o ht) (sy_en11 (sy_OModel_o ht).2) rfl (c_Model_forceOf l ht h0 hc6) cv_Model_forceOf wm_429 ⟨Nat.le_of_ble_eq_true rfl, Nat.le_of_ble_eq_true rfl, Nat.le_refl _, Nat.le_refl _⟩ rfl rfl (Nat.le_of_ble_eq_true rfl) dX12_forceOfAll_16 (fun H locs X => ?_)
    exact J_19 r5 S4 _ _ _ X (lv_sub hl [0, 1] rfl) h
  · have h := sy_t c2 h
    refine lv_iconst (v := 0) hx hb dX12_forceOfAll_7 (by decide) ?_
    refine lv_goto (tgt := 19) hx hb dX12_forceOfAll_8 (by decide) ?_
    exact J_19 0 S _ _ _ X (lv_sub hl [0, 1] rfl) h
def m_Model_pass_J203 (kk146 : Int32 → sy_St → sy_R) (a0 : Nat) (n0 : Nat) (y5 : Int32) (t0 : Int32) (t1 : Int32) (S : sy_St) : sy_R := sy_g (sy_in t0 n0) <| sy_b (sy_up S a0 t0.toNatClampNeg t1) fun S65 => sy_b (13 + y5 : Int32) fun x66 => sy_g (sy_in x66 n0) <| sy_g (sy_in x66 n0) <| sy_b (sy_up S65 a0 x66.toNatClampNeg ((S65 a0 x66.toNatClampNeg) + 1)) fun S69 => sy_b (19 + y5 : Int32) fun x70 => sy_g (sy_in x70 n0) <| sy_g (sy_in x70 n0) <| sy_b (sy_up S69 a0 x70.toNatClampNeg ((S69 a0 x70.toNatClampNeg) + 1)) fun S73 => sy_g (sy_in 3 n0) <| sy_c (m_Model_kindOf y5 S73) fun r76 S75 => if r76 = 4 then (sy_g (sy_in 3 n0) <| if (S75 a0 ((3 : Int32).toNatClampNeg)) ≤ 0 then (sy_g (sy_in 3 n0) <| sy_b (sy_up S75 a0 ((3 : Int32).toNatClampNeg) ((S73 a0 ((3 : Int32).toNatClampNeg)) - 0)) fun S85 => sy_b (y5 + 1 : Int32) fun x86 => kk146 x86 S85) else (sy_g (sy_in 3 n0) <| sy_b (sy_up S75 a0 ((3 : Int32).toNatClampNeg) ((S73 a0 ((3 : Int32).toNatClampNeg)) - 1)) fun S88 => sy_b (y5 + 1 : Int32) fun x89 => kk146 x89 S88)) else (sy_g (sy_in 3 n0) <| sy_b (sy_up S75 a0 ((3 : Int32).toNatClampNeg) ((S73 a0 ((3 : Int32).toNatClampNeg)) - 0)) fun S80 => sy_b (y5 + 1 : Int32) fun x81 => kk146 x81 S80)
def m_Model_pass_J171 (kk146 : Int32 → sy_St → sy_R) (a0 : Nat) (n0 : Nat) (y5 : Int32) (S : sy_St) : sy_R := sy_b (7 + y5 : Int32) fun x59 => sy_g (sy_in x59 n0) <| if 20 ≤ (S a0 x59.toNatClampNeg) then (m_Model_pass_J203 kk146 a0 n0 y5 (7 + y5) 20 S) else (sy_b (7 + y5 : Int32) fun x62 => sy_g (sy_in x62 n0) <| m_Model_pass_J203 kk146 a0 n0 y5 (7 + y5) ((S a0 x62.toNatClampNeg) + 1) S)
def m_Model_pass_J279 (kk146 : Int32 → sy_St → sy_R) (a0 : Nat) (n0 : Nat) (y5 : Int32) (t0 : Int32) (t1 : Int32) (t2 : Int32) (S : sy_St) : sy_R := sy_g (sy_in t0 n0) <| sy_b (sy_up S a0 t0.toNatClampNeg (t1 - t2)) fun S55 => sy_g (sy_in (19 + y5) n0) <| sy_b (sy_up S55 a0 ((19 + y5).toNatClampNeg) 0) fun S57 => sy_b (y5 + 1 : Int32) fun x58 => kk146 x58 S57
def m_Model_pass_B146 (a0 : Nat) (n0 : Nat) (kk146 : Int32 → sy_St → sy_R) (y5 : Int32) (S : sy_St) : sy_R := if (S 392 19) ≤ y5 then (sy_g (sy_in 0 n0) <| sy_g (sy_in 0 n0) <| sy_b (sy_up S a0 ((0 : Int32).toNatClampNeg) ((S a0 ((0 : Int32).toNatClampNeg)) + 1)) fun S44 => some (0, S44)) else (sy_g (sy_in 4 n0) <| if y5 = (S a0 ((4 : Int32).toNatClampNeg)) then (m_Model_pass_J171 kk146 a0 n0 y5 S) else (sy_g (sy_in 5 n0) <| if y5 = (S a0 ((5 : Int32).toNatClampNeg)) then (m_Model_pass_J171 kk146 a0 n0 y5 S) else (sy_b (7 + y5 : Int32) fun x49 => sy_g (sy_in x49 n0) <| sy_b (7 + y5 : Int32) fun x51 => sy_g (sy_in x51 n0) <| if (S a0 x51.toNatClampNeg) ≤ 0 then (m_Model_pass_J279 kk146 a0 n0 y5 x49 (S a0 x49.toNatClampNeg) 0 S) else (m_Model_pass_J279 kk146 a0 n0 y5 x49 (S a0 x49.toNatClampNeg) 1 S))))
def m_Model_pass_J116 (a0 : Nat) (n0 : Nat) (S : sy_St) : sy_R := sy_g (sy_in 2 n0) <| sy_g (sy_in 1 n0) <| if ((S a0 ((2 : Int32).toNatClampNeg)) + (S a0 ((1 : Int32).toNatClampNeg))) ≤ 999999999 then (sy_g (sy_in 2 n0) <| sy_g (sy_in 1 n0) <| sy_g (sy_in 2 n0) <| sy_b (sy_up S a0 ((2 : Int32).toNatClampNeg) ((S a0 ((2 : Int32).toNatClampNeg)) + (S a0 ((1 : Int32).toNatClampNeg)))) fun S38 => sy_fix (fun _ _ => none) (m_Model_pass_B146 a0 n0) sy_F 0 S38) else (sy_g (sy_in 2 n0) <| sy_b (sy_up S a0 ((2 : Int32).toNatClampNeg) 999999999) fun S40 => sy_fix (fun _ _ => none) (m_Model_pass_B146 a0 n0) sy_F 0 S40)
def m_Model_pass_J87 (a0 : Nat) (n0 : Nat) (S : sy_St) : sy_R := sy_g (sy_in 5 n0) <| if (S a0 ((5 : Int32).toNatClampNeg)) = (-1) then (sy_g (sy_in 4 n0) <| sy_c (m_Model_kindOf (S a0 ((4 : Int32).toNatClampNeg)) S) fun r25 S24 => if r25 = 1 then (sy_g (sy_in 1 n0) <| if 2 ≤ (S24 a0 ((1 : Int32).toNatClampNeg)) then (m_Model_pass_J116 a0 n0 S24) else (sy_g (sy_in 1 n0) <| sy_b (sy_up S24 a0 ((1 : Int32).toNatClampNeg) 2) fun S31 => m_Model_pass_J116 a0 n0 S31)) else (m_Model_pass_J116 a0 n0 S24)) else (m_Model_pass_J116 a0 n0 S)
def m_Model_pass_J59 (a0 : Nat) (n0 : Nat) (t0 : Int32) (t1 : Int32) (S : sy_St) : sy_R := sy_g (sy_in t0 n0) <| sy_b (sy_up S a0 t0.toNatClampNeg t1) fun S18 => m_Model_pass_J87 a0 n0 S18
def m_Model_pass_J86 (a0 : Nat) (n0 : Nat) (t0 : Int32) (t1 : Int32) (S : sy_St) : sy_R := sy_g (sy_in t0 n0) <| sy_b (sy_up S a0 t0.toNatClampNeg t1) fun S20 => m_Model_pass_J87 a0 n0 S20
def m_Model_pass_J17 (a0 : Nat) (n0 : Nat) (t0 : Int32) (S : sy_St) : sy_R := sy_c (m_Model_forceOfAll a0 n0 S) fun r7 S6 => if t0 ≤ r7 then (if r7 ≤ t0 then (m_Model_pass_J87 a0 n0 S6) else (sy_g (sy_in 1 n0) <| if (S6 a0 ((1 : Int32).toNatClampNeg)) ≤ 0 then (m_Model_pass_J86 a0 n0 1 0 S6) else (sy_g (sy_in 1 n0) <| m_Model_pass_J86 a0 n0 1 ((S6 a0 ((1 : Int32).toNatClampNeg)) - 1) S6))) else (sy_g (sy_in 1 n0) <| if (((S6 a0 ((1 : Int32).toNatClampNeg)) + t0) - r7) ≤ 99 then (sy_g (sy_in 1 n0) <| m_Model_pass_J59 a0 n0 1 (((S6 a0 ((1 : Int32).toNatClampNeg)) + t0) - r7) S6) else (m_Model_pass_J59 a0 n0 1 99 S6))
def m_Model_pass (a0 : Nat) (n0 : Nat) (p1 : Int32) (S : sy_St) : sy_R := sy_c (m_Model_weightOf a0 n0 S) fun r2 S1 => sy_b (r2 - p1 : Int32) fun x4 => if 0 ≤ x4 then (m_Model_pass_J17 a0 n0 x4 S1) else (m_Model_pass_J17 a0 n0 0 S1)
theorem cv_Model_pass : sy_cV RX12 yX12_pass cX12_pass 6 none 2 := ⟨wm_543, wm_544, wm_5, wm_545, by decide +kernel⟩
set_option maxRecDepth 100000 in
set_option maxHeartbeats 40000000 in
theorem c_Model_pass (l : Launch) {E : sy_ET} {a0 : Nat} {n0 : Nat} (ht : sy_OModel E) (h0 : sy_isI E a0 n0) {p1 : Int32} {S S' : sy_St} {r : Int32} (h : m_Model_pass a0 n0 p1 S = some (r, S')) : sy_MV l yX12_pass cX12_pass 6 3 67 [.ref (sy_ad E 392), .ref (sy_ad E a0), .int p1] E S S' := by
  refine sy_MV_of RX12 pn_12 rfl (Nat.le_of_ble_eq_true rfl) (fun p e s m args below meth c A ls fx hr hlk hA X hl => ?_)
  have hx := fx.1
  have hb := fx.2.1
  have hown := fx.2.2.2.1
  have hts := fx.2.2.2.2
  have hl : lv_has ls 6 [(0, .ref (sy_ad E 392)), (1, .ref (sy_ad E a0)), (2, .int p1)] := hl
  have L_146 : ∀ (n146 : Nat) (y5 : Int32) (S : sy_St) (H : Heap) (locs : List Loc) (ls : Array Slot), sy_Wd E A s S H locs → lv_has ls 6 [(0, .ref (sy_ad E 392)), (1, .ref (sy_ad E a0)), (5, .int y5)] → sy_fix (fun _ _ => none) (m_Model_pass_B146 a0 n0) n146 y5 S = some (r, S') → W p l e (sy_rm 3 67) s m args below meth c H locs 0 0 (MQ below (sy_Qv E A S') args s 0 0 A) (F0 m 146 ls []) := by
    intro n146
    induction n146 with
    | zero => intro y5 S H locs ls X hl h; have h9 : (none : sy_R) = some (r, S') := h; cases h9
    | succ n146 ih146 =>
      have J_279 : ∀ (y5 t0 t1 t2 : Int32) (S : sy_St) (H : Heap) (locs : List Loc) (ls : Array Slot), sy_Wd E A s S H locs → lv_has ls 6 [(0, .ref (sy_ad E 392)), (1, .ref (sy_ad E a0)), (5, .int y5)] → m_Model_pass_J279 (sy_fix (fun _ _ => none) (m_Model_pass_B146 a0 n0) n146) a0 n0 y5 t0 t1 t2 S = some (r, S') → W p l e (sy_rm 3 67) s m args below meth c H locs 0 0 (MQ below (sy_Qv E A S') args s 0 0 A) (F0 m 279 ls [.int t2, .int t1, .int t0, .ref (sy_ad E a0)]) := by
        intro y5 t0 t1 t2 S H locs ls X hl h
        unfold m_Model_pass_J279 at h
        refine lv_isub hx hb dX12_pass_279 ?_
        obtain ⟨g54, h⟩ := sy_g_e h
        obtain ⟨S55, hS55, h⟩ := sy_b_e h
        refine sy_iast fx X h0 g54 hS55 dX12_pass_280 (fun H locs X => ?_)
        refine lv_aload_n hx hb dX12_pass_281 rfl (lv_at hl 1 rfl) ?_
        refine lv_bipush (v := 19) hx hb dX12_pass_282 (by decide) ?_
        refine lv_iload hx hb dX12_pass_284 (lv_at hl 2 rfl) ?_
        refine lv_iadd hx hb dX12_pass_286 ?_
        refine lv_iconst (v := 0) hx hb dX12_pass_287 (by decide) ?_
        obtain ⟨g56, h⟩ := sy_g_e h
        obtain ⟨S57, hS57, h⟩ := sy_b_e h
        refine sy_iast fx X h0 g56 hS57 dX12_pass_288 (fun H locs X => ?_)
        obtain ⟨x58, hx58, h⟩ := sy_b_e h
        refine lv_iinc (v := x58) (lv' := [(5, .int x58), (0, .ref (sy_ad E 392)), (1, .ref (sy_ad E a0))]) hx hb dX12_pass_289 hl (k := 2) rfl (by rw [hx58]; rfl) (by decide) rfl (fun ls hl => ?_)
        refine lv_goto (tgt := 146) hx hb dX12_pass_292 (by decide) ?_
        exact ih146 x58 S57 _ _ _ X (lv_sub hl [1, 2, 0] rfl) h
      have J_203 : ∀ (y5 t0 t1 : Int32) (S : sy_St) (H : Heap) (locs : List Loc) (ls : Array Slot), sy_Wd E A s S H locs → lv_has ls 6 [(0, .ref (sy_ad E 392)), (1, .ref (sy_ad E a0)), (5, .int y5)] → m_Model_pass_J203 (sy_fix (fun _ _ => none) (m_Model_pass_B146 a0 n0) n146) a0 n0 y5 t0 t1 S = some (r, S') → W p l e (sy_rm 3 67) s m args below meth c H locs 0 0 (MQ below (sy_Qv E A S') args s 0 0 A) (F0 m 203 ls [.int t1, .int t0, .ref (sy_ad E a0)]) := by
        intro y5 t0 t1 S H locs ls X hl h
        unfold m_Model_pass_J203 at h
        obtain ⟨g64, h⟩ := sy_g_e h
        obtain ⟨S65, hS65, h⟩ := sy_b_e h
        refine sy_iast fx X h0 g64 hS65 dX12_pass_203 (fun H locs X => ?_)
        refine lv_aload_n hx hb dX12_pass_204 rfl (lv_at hl 1 rfl) ?_
        refine lv_bipush (v := 13) hx hb dX12_pass_205 (by decide) ?_
        refine lv_iload hx hb dX12_pass_207 (lv_at hl 2 rfl) ?_
        refine lv_iadd hx hb dX12_pass_209 ?_
        obtain ⟨x66, hx66, h⟩ := sy_b_e h
        refine sy_top hx66 ?_
        refine lv_dup2_11 hx hb dX12_pass_210 rfl rfl ?_
        obtain ⟨g67, h⟩ := sy_g_e h
        refine sy_iald fx X h0 g67 dX12_pass_211 ?_
        refine lv_iconst (v := 1) hx hb dX12_pass_212 (by decide) ?_
        refine lv_iadd hx hb dX12_pass_213 ?_
        obtain ⟨g68, h⟩ := sy_g_e h
        obtain ⟨S69, hS69, h⟩ := sy_b_e h
        refine sy_iast fx X h0 g68 hS69 dX12_pass_214 (fun H locs X => ?_)
        refine lv_aload_n hx hb dX12_pass_215 rfl (lv_at hl 1 rfl) ?_
        refine lv_bipush (v := 19) hx hb dX12_pass_216 (by decide) ?_
        refine lv_iload hx hb dX12_pass_218 (lv_at hl 2 rfl) ?_
        refine lv_iadd hx hb dX12_pass_220 ?_
        obtain ⟨x70, hx70, h⟩ := sy_b_e h
        refine sy_top hx70 ?_
        refine lv_dup2_11 hx hb dX12_pass_221 rfl rfl ?_
        obtain ⟨g71, h⟩ := sy_g_e h
        refine sy_iald fx X h0 g71 dX12_pass_222 ?_
        refine lv_iconst (v := 1) hx hb dX12_pass_223 (by decide) ?_
        refine lv_iadd hx hb dX12_pass_224 ?_
        obtain ⟨g72, h⟩ := sy_g_e h
        obtain ⟨S73, hS73, h⟩ := sy_b_e h
        refine sy_iast fx X h0 g72 hS73 dX12_pass_225 (fun H locs X => ?_)
        refine lv_aload_n hx hb dX12_pass_226 rfl (lv_at hl 1 rfl) ?_
        refine lv_iconst (v := 3) hx hb dX12_pass_227 (by decide) ?_
        refine lv_dup2_11 hx hb dX12_pass_228 rfl rfl ?_
        obtain ⟨g74, h⟩ := sy_g_e h
        refine sy_iald fx X h0 g74 dX12_pass_229 ?_
        refine lv_aload_n hx hb dX12_pass_230 rfl (lv_at hl 0 rfl) ?_
        refine lv_iload hx hb dX12_pass_231 (lv_at hl 2 rfl) ?_
        obtain ⟨r76, S75, hc77, h⟩ := sy_c_e h
        refine sy_vi (rest := [.int (S73 a0 ((3 : Int32).toNatClampNeg)), .int 3, .ref (sy_ad E a0)]) fx hA X hl.1 (sy_OModel_o ht) (sy_en11 (sy_OModel_o ht).2) rfl (c_Model_kindOf l ht hc77) cv_Model_kindOf wm_433 ⟨Nat.le_of_ble_eq_true rfl, Nat.le_of_ble_eq_true rfl, Nat.le_refl _, Nat.le_refl _⟩ rfl rfl (Nat.le_of_ble_eq_true rfl) dX12_pass_233 (fun H locs X => ?_)
        refine lv_iconst (v := 4) hx hb dX12_pass_236 (by decide) ?_
        refine lv_icmp_ne (tgt := 250) hx hb dX12_pass_237 (by decide) (fun c78 => ?_) (fun c78 => ?_)
        · have h := sy_f c78 h
          refine lv_iconst (v := 0) hx hb dX12_pass_250 (by decide) ?_
          refine lv_isub hx hb dX12_pass_251 ?_
          obtain ⟨g79, h⟩ := sy_g_e h
          obtain ⟨S80, hS80, h⟩ := sy_b_e h
          refine sy_iast fx X h0 g79 hS80 dX12_pass_252 (fun H locs X => ?_)
          refine lv_goto (tgt := 289) hx hb dX12_pass_253 (by decide) ?_
          obtain ⟨x81, hx81, h⟩ := sy_b_e h
          refine lv_iinc (v := x81) (lv' := [(5, .int x81), (0, .ref (sy_ad E 392)), (1, .ref (sy_ad E a0))]) hx hb dX12_pass_289 hl (k := 2) rfl (by rw [hx81]; rfl) (by decide) rfl (fun ls hl => ?_)
          refine lv_goto (tgt := 146) hx hb dX12_pass_292 (by decide) ?_
          exact ih146 x81 S80 _ _ _ X (lv_sub hl [1, 2, 0] rfl) h
        · have h := sy_t c78 h
          refine lv_aload_n hx hb dX12_pass_240 rfl (lv_at hl 1 rfl) ?_
          refine lv_iconst (v := 3) hx hb dX12_pass_241 (by decide) ?_
          obtain ⟨g82, h⟩ := sy_g_e h
          refine sy_iald fx X h0 g82 dX12_pass_242 ?_
          refine lv_if_le (tgt := 250) hx hb dX12_pass_243 (by decide) (fun c83 => ?_) (fun c83 => ?_)
          · have h := sy_t c83 h
            refine lv_iconst (v := 0) hx hb dX12_pass_250 (by decide) ?_
            refine lv_isub hx hb dX12_pass_251 ?_
            obtain ⟨g84, h⟩ := sy_g_e h
            obtain ⟨S85, hS85, h⟩ := sy_b_e h
            refine sy_iast fx X h0 g84 hS85 dX12_pass_252 (fun H locs X => ?_)
            refine lv_goto (tgt := 289) hx hb dX12_pass_253 (by decide) ?_
            obtain ⟨x86, hx86, h⟩ := sy_b_e h
            refine lv_iinc (v := x86) (lv' := [(5, .int x86), (0, .ref (sy_ad E 392)), (1, .ref (sy_ad E a0))]) hx hb dX12_pass_289 hl (k := 2) rfl (by rw [hx86]; rfl) (by decide) rfl (fun ls hl => ?_)
            refine lv_goto (tgt := 146) hx hb dX12_pass_292 (by decide) ?_
            exact ih146 x86 S85 _ _ _ X (lv_sub hl [1, 2, 0] rfl) h
          · have h := sy_f c83 h
            refine lv_iconst (v := 1) hx hb dX12_pass_246 (by decide) ?_
            refine lv_goto (tgt := 251) hx hb dX12_pass_247 (by decide) ?_
            refine lv_isub hx hb dX12_pass_251 ?_
            obtain ⟨g87, h⟩ := sy_g_e h
            obtain ⟨S88, hS88, h⟩ := sy_b_e h
            refine sy_iast fx X h0 g87 hS88 dX12_pass_252 (fun H locs X => ?_)
            refine lv_goto (tgt := 289) hx hb dX12_pass_253 (by decide) ?_
            obtain ⟨x89, hx89, h⟩ := sy_b_e h
            refine lv_iinc (v := x89) (lv' := [(5, .int x89), (0, .ref (sy_ad E 392)), (1, .ref (sy_ad E a0))]) hx hb dX12_pass_289 hl (k := 2) rfl (by rw [hx89]; rfl) (by decide) rfl (fun ls hl => ?_)
            refine lv_goto (tgt := 146) hx hb dX12_pass_292 (by decide) ?_
            exact ih146 x89 S88 _ _ _ X (lv_sub hl [1, 2, 0] rfl) h
      have J_171 : ∀ (y5 : Int32) (S : sy_St) (H : Heap) (locs : List Loc) (ls : Array Slot), sy_Wd E A s S H locs → lv_has ls 6 [(0, .ref (sy_ad E 392)), (1, .ref (sy_ad E a0)), (5, .int y5)] → m_Model_pass_J171 (sy_fix (fun _ _ => none) (m_Model_pass_B146 a0 n0) n146) a0 n0 y5 S = some (r, S') → W p l e (sy_rm 3 67) s m args below meth c H locs 0 0 (MQ below (sy_Qv E A S') args s 0 0 A) (F0 m 171 ls []) := by
        intro y5 S H locs ls X hl h
        unfold m_Model_pass_J171 at h
        refine lv_aload_n hx hb dX12_pass_171 rfl (lv_at hl 1 rfl) ?_
        refine lv_bipush (v := 7) hx hb dX12_pass_172 (by decide) ?_
        refine lv_iload hx hb dX12_pass_174 (lv_at hl 2 rfl) ?_
        refine lv_iadd hx hb dX12_pass_176 ?_
        refine lv_aload_n hx hb dX12_pass_177 rfl (lv_at hl 1 rfl) ?_
        refine lv_bipush (v := 7) hx hb dX12_pass_178 (by decide) ?_
        refine lv_iload hx hb dX12_pass_180 (lv_at hl 2 rfl) ?_
        refine lv_iadd hx hb dX12_pass_182 ?_
        obtain ⟨x59, hx59, h⟩ := sy_b_e h
        refine sy_top hx59 ?_
        obtain ⟨g60, h⟩ := sy_g_e h
        refine sy_iald fx X h0 g60 dX12_pass_183 ?_
        refine lv_bipush (v := 20) hx hb dX12_pass_184 (by decide) ?_
        refine lv_icmp_ge (tgt := 201) hx hb dX12_pass_186 (by decide) (fun c61 => ?_) (fun c61 => ?_)
        · have h := sy_t c61 h
          refine lv_bipush (v := 20) hx hb dX12_pass_201 (by decide) ?_
          exact J_203 y5 (7 + y5) 20 S _ _ _ X (lv_sub hl [0, 1, 2] rfl) h
        · have h := sy_f c61 h
          refine lv_aload_n hx hb dX12_pass_189 rfl (lv_at hl 1 rfl) ?_
          refine lv_bipush (v := 7) hx hb dX12_pass_190 (by decide) ?_
          refine lv_iload hx hb dX12_pass_192 (lv_at hl 2 rfl) ?_
          refine lv_iadd hx hb dX12_pass_194 ?_
          obtain ⟨x62, hx62, h⟩ := sy_b_e h
          refine sy_top hx62 ?_
          obtain ⟨g63, h⟩ := sy_g_e h
          refine sy_iald fx X h0 g63 dX12_pass_195 ?_
          refine lv_iconst (v := 1) hx hb dX12_pass_196 (by decide) ?_
          refine lv_iadd hx hb dX12_pass_197 ?_
          refine lv_goto (tgt := 203) hx hb dX12_pass_198 (by decide) ?_
          exact J_203 y5 (7 + y5) ((S a0 x62.toNatClampNeg) + 1) S _ _ _ X (lv_sub hl [0, 1, 2] rfl) h
      intro y5 S H locs ls X hl h
      have h : m_Model_pass_B146 a0 n0 (sy_fix (fun _ _ => none) (m_Model_pass_B146 a0 n0) n146) y5 S = some (r, S') := h
      unfold m_Model_pass_B146 at h
      refine lv_iload hx hb dX12_pass_146 (lv_at hl 2 rfl) ?_
      refine lv_aload_n hx hb dX12_pass_148 rfl (lv_at hl 0 rfl) ?_
      refine sy_g11 fx X (sy_OModel_o ht) 19 (by decide) wm_188 (fun _ h9 => h9) rfl dX12_pass_149 ?_
      refine lv_icmp_ge (tgt := 295) hx hb dX12_pass_152 (by decide) (fun c41 => ?_) (fun c41 => ?_)
      · have h := sy_t c41 h
        refine lv_aload_n hx hb dX12_pass_295 rfl (lv_at hl 1 rfl) ?_
        refine lv_iconst (v := 0) hx hb dX12_pass_296 (by decide) ?_
        refine lv_dup2_11 hx hb dX12_pass_297 rfl rfl ?_
        obtain ⟨g42, h⟩ := sy_g_e h
        refine sy_iald fx X h0 g42 dX12_pass_298 ?_
        refine lv_iconst (v := 1) hx hb dX12_pass_299 (by decide) ?_
        refine lv_iadd hx hb dX12_pass_300 ?_
        obtain ⟨g43, h⟩ := sy_g_e h
        obtain ⟨S44, hS44, h⟩ := sy_b_e h
        refine sy_iast fx X h0 g43 hS44 dX12_pass_301 (fun H locs X => ?_)
        exact sy_vret fx X hr hlk h dX12_pass_302
      · have h := sy_f c41 h
        refine lv_iload hx hb dX12_pass_155 (lv_at hl 2 rfl) ?_
        refine lv_aload_n hx hb dX12_pass_157 rfl (lv_at hl 1 rfl) ?_
        refine lv_iconst (v := 4) hx hb dX12_pass_158 (by decide) ?_
        obtain ⟨g45, h⟩ := sy_g_e h
        refine sy_iald fx X h0 g45 dX12_pass_159 ?_
        refine lv_icmp_eq (tgt := 171) hx hb dX12_pass_160 (by decide) (fun c46 => ?_) (fun c46 => ?_)
        · have h := sy_t c46 h
          exact J_171 y5 S _ _ _ X (lv_sub hl [0, 1, 2] rfl) h
        · have h := sy_f c46 h
          refine lv_iload hx hb dX12_pass_163 (lv_at hl 2 rfl) ?_
          refine lv_aload_n hx hb dX12_pass_165 rfl (lv_at hl 1 rfl) ?_
          refine lv_iconst (v := 5) hx hb dX12_pass_166 (by decide) ?_
          obtain ⟨g47, h⟩ := sy_g_e h
          refine sy_iald fx X h0 g47 dX12_pass_167 ?_
          refine lv_icmp_ne (tgt := 256) hx hb dX12_pass_168 (by decide) (fun c48 => ?_) (fun c48 => ?_)
          · have h := sy_f c48 h
            refine lv_aload_n hx hb dX12_pass_256 rfl (lv_at hl 1 rfl) ?_
            refine lv_bipush (v := 7) hx hb dX12_pass_257 (by decide) ?_
            refine lv_iload hx hb dX12_pass_259 (lv_at hl 2 rfl) ?_
            refine lv_iadd hx hb dX12_pass_261 ?_
            obtain ⟨x49, hx49, h⟩ := sy_b_e h
            refine sy_top hx49 ?_
            refine lv_dup2_11 hx hb dX12_pass_262 rfl rfl ?_
            obtain ⟨g50, h⟩ := sy_g_e h
            refine sy_iald fx X h0 g50 dX12_pass_263 ?_
            refine lv_aload_n hx hb dX12_pass_264 rfl (lv_at hl 1 rfl) ?_
            refine lv_bipush (v := 7) hx hb dX12_pass_265 (by decide) ?_
            refine lv_iload hx hb dX12_pass_267 (lv_at hl 2 rfl) ?_
            refine lv_iadd hx hb dX12_pass_269 ?_
            obtain ⟨x51, hx51, h⟩ := sy_b_e h
            refine sy_top hx51 ?_
            obtain ⟨g52, h⟩ := sy_g_e h
            refine sy_iald fx X h0 g52 dX12_pass_270 ?_
            refine lv_if_le (tgt := 278) hx hb dX12_pass_271 (by decide) (fun c53 => ?_) (fun c53 => ?_)
            · have h := sy_t c53 h
              refine lv_iconst (v := 0) hx hb dX12_pass_278 (by decide) ?_
              exact J_279 y5 x49 (S a0 x49.toNatClampNeg) 0 S _ _ _ X (lv_sub hl [0, 1, 2] rfl) h
            · have h := sy_f c53 h
              refine lv_iconst (v := 1) hx hb dX12_pass_274 (by decide) ?_
              refine lv_goto (tgt := 279) hx hb dX12_pass_275 (by decide) ?_
              exact J_279 y5 x49 (S a0 x49.toNatClampNeg) 1 S _ _ _ X (lv_sub hl [0, 1, 2] rfl) h
          · have h := sy_t c48 h
            exact J_171 y5 S _ _ _ X (lv_sub hl [0, 1, 2] rfl) h
  have J_116 : ∀ (S : sy_St) (H : Heap) (locs : List Loc) (ls : Array Slot), sy_Wd E A s S H locs → lv_has ls 6 [(0, .ref (sy_ad E 392)), (1, .ref (sy_ad E a0))] → m_Model_pass_J116 a0 n0 S = some (r, S') → W p l e (sy_rm 3 67) s m args below meth c H locs 0 0 (MQ below (sy_Qv E A S') args s 0 0 A) (F0 m 116 ls []) := by
    intro  S H locs ls X hl h
    unfold m_Model_pass_J116 at h
    refine lv_aload_n hx hb dX12_pass_116 rfl (lv_at hl 1 rfl) ?_
    refine lv_iconst (v := 2) hx hb dX12_pass_117 (by decide) ?_
    refine lv_aload_n hx hb dX12_pass_118 rfl (lv_at hl 1 rfl) ?_
    refine lv_iconst (v := 2) hx hb dX12_pass_119 (by decide) ?_
    obtain ⟨g32, h⟩ := sy_g_e h
    refine sy_iald fx X h0 g32 dX12_pass_120 ?_
    refine lv_aload_n hx hb dX12_pass_121 rfl (lv_at hl 1 rfl) ?_
    refine lv_iconst (v := 1) hx hb dX12_pass_122 (by decide) ?_
    obtain ⟨g33, h⟩ := sy_g_e h
    refine sy_iald fx X h0 g33 dX12_pass_123 ?_
    refine lv_iadd hx hb dX12_pass_124 ?_
    refine lv_ldc (v := 999999999) hx hb hown (hts _ wm_546) dX12_pass_125 ?_
    refine lv_icmp_le (tgt := 135) hx hb dX12_pass_127 (by decide) (fun c34 => ?_) (fun c34 => ?_)
    · have h := sy_t c34 h
      refine lv_aload_n hx hb dX12_pass_135 rfl (lv_at hl 1 rfl) ?_
      refine lv_iconst (v := 2) hx hb dX12_pass_136 (by decide) ?_
      obtain ⟨g35, h⟩ := sy_g_e h
      refine sy_iald fx X h0 g35 dX12_pass_137 ?_
      refine lv_aload_n hx hb dX12_pass_138 rfl (lv_at hl 1 rfl) ?_
      refine lv_iconst (v := 1) hx hb dX12_pass_139 (by decide) ?_
      obtain ⟨g36, h⟩ := sy_g_e h
      refine sy_iald fx X h0 g36 dX12_pass_140 ?_
      refine lv_iadd hx hb dX12_pass_141 ?_
      obtain ⟨g37, h⟩ := sy_g_e h
      obtain ⟨S38, hS38, h⟩ := sy_b_e h
      refine sy_iast fx X h0 g37 hS38 dX12_pass_142 (fun H locs X => ?_)
      refine lv_iconst (v := 0) hx hb dX12_pass_143 (by decide) ?_
      refine lv_istore (lv' := [(5, .int 0), (0, .ref (sy_ad E 392)), (1, .ref (sy_ad E a0))]) hx hb dX12_pass_144 hl (by decide) rfl (fun ls hl => ?_)
      exact L_146 sy_F 0 S38 _ _ _ X (lv_sub hl [1, 2, 0] rfl) h
    · have h := sy_f c34 h
      refine lv_ldc (v := 999999999) hx hb hown (hts _ wm_546) dX12_pass_130 ?_
      refine lv_goto (tgt := 142) hx hb dX12_pass_132 (by decide) ?_
      obtain ⟨g39, h⟩ := sy_g_e h
      obtain ⟨S40, hS40, h⟩ := sy_b_e h
      refine sy_iast fx X h0 g39 hS40 dX12_pass_142 (fun H locs X => ?_)
      refine lv_iconst (v := 0) hx hb dX12_pass_143 (by decide) ?_
      refine lv_istore (lv' := [(5, .int 0), (0, .ref (sy_ad E 392)), (1, .ref (sy_ad E a0))]) hx hb dX12_pass_144 hl (by decide) rfl (fun ls hl => ?_)
      exact L_146 sy_F 0 S40 _ _ _ X (lv_sub hl [1, 2, 0] rfl) h
  have J_87 : ∀ (S : sy_St) (H : Heap) (locs : List Loc) (ls : Array Slot), sy_Wd E A s S H locs → lv_has ls 6 [(0, .ref (sy_ad E 392)), (1, .ref (sy_ad E a0))] → m_Model_pass_J87 a0 n0 S = some (r, S') → W p l e (sy_rm 3 67) s m args below meth c H locs 0 0 (MQ below (sy_Qv E A S') args s 0 0 A) (F0 m 87 ls []) := by
    intro  S H locs ls X hl h
    unfold m_Model_pass_J87 at h
    refine lv_aload_n hx hb dX12_pass_87 rfl (lv_at hl 1 rfl) ?_
    refine lv_iconst (v := 5) hx hb dX12_pass_88 (by decide) ?_
    obtain ⟨g21, h⟩ := sy_g_e h
    refine sy_iald fx X h0 g21 dX12_pass_89 ?_
    refine lv_iconst (v := (-1)) hx hb dX12_pass_90 (by decide) ?_
    refine lv_icmp_ne (tgt := 116) hx hb dX12_pass_91 (by decide) (fun c22 => ?_) (fun c22 => ?_)
    · have h := sy_f c22 h
      exact J_116 S _ _ _ X (lv_sub hl [0, 1] rfl) h
    · have h := sy_t c22 h
      refine lv_aload_n hx hb dX12_pass_94 rfl (lv_at hl 0 rfl) ?_
      refine lv_aload_n hx hb dX12_pass_95 rfl (lv_at hl 1 rfl) ?_
      refine lv_iconst (v := 4) hx hb dX12_pass_96 (by decide) ?_
      obtain ⟨g23, h⟩ := sy_g_e h
      refine sy_iald fx X h0 g23 dX12_pass_97 ?_
      obtain ⟨r25, S24, hc26, h⟩ := sy_c_e h
      refine sy_vi (rest := []) fx hA X hl.1 (sy_OModel_o ht) (sy_en11 (sy_OModel_o ht).2) rfl (c_Model_kindOf l ht hc26) cv_Model_kindOf wm_433 ⟨Nat.le_of_ble_eq_true rfl, Nat.le_of_ble_eq_true rfl, Nat.le_refl _, Nat.le_refl _⟩ rfl rfl (Nat.le_of_ble_eq_true rfl) dX12_pass_98 (fun H locs X => ?_)
      refine lv_iconst (v := 1) hx hb dX12_pass_101 (by decide) ?_
      refine lv_icmp_ne (tgt := 116) hx hb dX12_pass_102 (by decide) (fun c27 => ?_) (fun c27 => ?_)
      · have h := sy_f c27 h
        exact J_116 S24 _ _ _ X (lv_sub hl [0, 1] rfl) h
      · have h := sy_t c27 h
        refine lv_aload_n hx hb dX12_pass_105 rfl (lv_at hl 1 rfl) ?_
        refine lv_iconst (v := 1) hx hb dX12_pass_106 (by decide) ?_
        obtain ⟨g28, h⟩ := sy_g_e h
        refine sy_iald fx X h0 g28 dX12_pass_107 ?_
        refine lv_iconst (v := 2) hx hb dX12_pass_108 (by decide) ?_
        refine lv_icmp_ge (tgt := 116) hx hb dX12_pass_109 (by decide) (fun c29 => ?_) (fun c29 => ?_)
        · have h := sy_t c29 h
          exact J_116 S24 _ _ _ X (lv_sub hl [0, 1] rfl) h
        · have h := sy_f c29 h
          refine lv_aload_n hx hb dX12_pass_112 rfl (lv_at hl 1 rfl) ?_
          refine lv_iconst (v := 1) hx hb dX12_pass_113 (by decide) ?_
          refine lv_iconst (v := 2) hx hb dX12_pass_114 (by decide) ?_
          obtain ⟨g30, h⟩ := sy_g_e h
          obtain ⟨S31, hS31, h⟩ := sy_b_e h
          refine sy_iast fx X h0 g30 hS31 dX12_pass_115 (fun H locs X => ?_)
          exact J_116 S31 _ _ _ X (lv_sub hl [0, 1] rfl) h
  have J_59 : ∀ (t0 t1 : Int32) (S : sy_St) (H : Heap) (locs : List Loc) (ls : Array Slot), sy_Wd E A s S H locs → lv_has ls 6 [(0, .ref (sy_ad E 392)), (1, .ref (sy_ad E a0))] → m_Model_pass_J59 a0 n0 t0 t1 S = some (r, S') → W p l e (sy_rm 3 67) s m args below meth c H locs 0 0 (MQ below (sy_Qv E A S') args s 0 0 A) (F0 m 59 ls [.int t1, .int t0, .ref (sy_ad E a0)]) := by
    intro t0 t1 S H locs ls X hl h
    unfold m_Model_pass_J59 at h
    obtain ⟨g17, h⟩ := sy_g_e h
    obtain ⟨S18, hS18, h⟩ := sy_b_e h
    refine sy_iast fx X h0 g17 hS18 dX12_pass_59 (fun H locs X => ?_)
    refine lv_goto (tgt := 87) hx hb dX12_pass_60 (by decide) ?_
    exact J_87 S18 _ _ _ X (lv_sub hl [0, 1] rfl) h
  have J_86 : ∀ (t0 t1 : Int32) (S : sy_St) (H : Heap) (locs : List Loc) (ls : Array Slot), sy_Wd E A s S H locs → lv_has ls 6 [(0, .ref (sy_ad E 392)), (1, .ref (sy_ad E a0))] → m_Model_pass_J86 a0 n0 t0 t1 S = some (r, S') → W p l e (sy_rm 3 67) s m args below meth c H locs 0 0 (MQ below (sy_Qv E A S') args s 0 0 A) (F0 m 86 ls [.int t1, .int t0, .ref (sy_ad E a0)]) := by
    intro t0 t1 S H locs ls X hl h
    unfold m_Model_pass_J86 at h
    obtain ⟨g19, h⟩ := sy_g_e h
    obtain ⟨S20, hS20, h⟩ := sy_b_e h
    refine sy_iast fx X h0 g19 hS20 dX12_pass_86 (fun H locs X => ?_)
    exact J_87 S20 _ _ _ X (lv_sub hl [0, 1] rfl) h
  have J_17 : ∀ (t0 : Int32) (S : sy_St) (H : Heap) (locs : List Loc) (ls : Array Slot), sy_Wd E A s S H locs → lv_has ls 6 [(0, .ref (sy_ad E 392)), (1, .ref (sy_ad E a0))] → m_Model_pass_J17 a0 n0 t0 S = some (r, S') → W p l e (sy_rm 3 67) s m args below meth c H locs 0 0 (MQ below (sy_Qv E A S') args s 0 0 A) (F0 m 17 ls [.int t0]) := by
    intro t0 S H locs ls X hl h
    unfold m_Model_pass_J17 at h
    refine lv_istore_n (lv' := [(3, .int t0), (0, .ref (sy_ad E 392)), (1, .ref (sy_ad E a0))]) hx hb dX12_pass_17 rfl hl (by decide) rfl (fun ls hl => ?_)
    refine lv_aload_n hx hb dX12_pass_18 rfl (lv_at hl 1 rfl) ?_
    refine lv_aload_n hx hb dX12_pass_19 rfl (lv_at hl 2 rfl) ?_
    obtain ⟨r7, S6, hc8, h⟩ := sy_c_e h
    refine sy_vi (rest := []) fx hA X hl.1 (sy_OModel_o ht) (sy_en11 (sy_OModel_o ht).2) rfl (c_Model_forceOfAll l ht h0 hc8) cv_Model_forceOfAll wm_425 ⟨Nat.le_of_ble_eq_true rfl, Nat.le_of_ble_eq_true rfl, Nat.le_refl _, Nat.le_refl _⟩ rfl rfl (Nat.le_of_ble_eq_true rfl) dX12_pass_20 (fun H locs X => ?_)
    refine lv_istore (lv' := [(4, .int r7), (3, .int t0), (0, .ref (sy_ad E 392)), (1, .ref (sy_ad E a0))]) hx hb dX12_pass_23 hl (by decide) rfl (fun ls hl => ?_)
    refine lv_iload hx hb dX12_pass_25 (lv_at hl 0 rfl) ?_
    refine lv_iload_n hx hb dX12_pass_27 rfl (lv_at hl 1 rfl) ?_
    refine lv_icmp_ge (tgt := 63) hx hb dX12_pass_28 (by decide) (fun c9 => ?_) (fun c9 => ?_)
    · have h := sy_t c9 h
      refine lv_iload hx hb dX12_pass_63 (lv_at hl 0 rfl) ?_
      refine lv_iload_n hx hb dX12_pass_65 rfl (lv_at hl 1 rfl) ?_
      refine lv_icmp_le (tgt := 87) hx hb dX12_pass_66 (by decide) (fun c10 => ?_) (fun c10 => ?_)
      · have h := sy_t c10 h
        exact J_87 S6 _ _ _ X (lv_sub hl [2, 3] rfl) h
      · have h := sy_f c10 h
        refine lv_aload_n hx hb dX12_pass_69 rfl (lv_at hl 3 rfl) ?_
        refine lv_iconst (v := 1) hx hb dX12_pass_70 (by decide) ?_
        refine lv_aload_n hx hb dX12_pass_71 rfl (lv_at hl 3 rfl) ?_
        refine lv_iconst (v := 1) hx hb dX12_pass_72 (by decide) ?_
        obtain ⟨g11, h⟩ := sy_g_e h
        refine sy_iald fx X h0 g11 dX12_pass_73 ?_
        refine lv_if_le (tgt := 85) hx hb dX12_pass_74 (by decide) (fun c12 => ?_) (fun c12 => ?_)
        · have h := sy_t c12 h
          refine lv_iconst (v := 0) hx hb dX12_pass_85 (by decide) ?_
          exact J_86 1 0 S6 _ _ _ X (lv_sub hl [2, 3] rfl) h
        · have h := sy_f c12 h
          refine lv_aload_n hx hb dX12_pass_77 rfl (lv_at hl 3 rfl) ?_
          refine lv_iconst (v := 1) hx hb dX12_pass_78 (by decide) ?_
          obtain ⟨g13, h⟩ := sy_g_e h
          refine sy_iald fx X h0 g13 dX12_pass_79 ?_
          refine lv_iconst (v := 1) hx hb dX12_pass_80 (by decide) ?_
          refine lv_isub hx hb dX12_pass_81 ?_
          refine lv_goto (tgt := 86) hx hb dX12_pass_82 (by decide) ?_
          exact J_86 1 ((S6 a0 ((1 : Int32).toNatClampNeg)) - 1) S6 _ _ _ X (lv_sub hl [2, 3] rfl) h
    · have h := sy_f c9 h
      refine lv_aload_n hx hb dX12_pass_31 rfl (lv_at hl 3 rfl) ?_
      refine lv_iconst (v := 1) hx hb dX12_pass_32 (by decide) ?_
      refine lv_aload_n hx hb dX12_pass_33 rfl (lv_at hl 3 rfl) ?_
      refine lv_iconst (v := 1) hx hb dX12_pass_34 (by decide) ?_
      obtain ⟨g14, h⟩ := sy_g_e h
      refine sy_iald fx X h0 g14 dX12_pass_35 ?_
      refine lv_iload_n hx hb dX12_pass_36 rfl (lv_at hl 1 rfl) ?_
      refine lv_iadd hx hb dX12_pass_37 ?_
      refine lv_iload hx hb dX12_pass_38 (lv_at hl 0 rfl) ?_
      refine lv_isub hx hb dX12_pass_40 ?_
      refine lv_bipush (v := 99) hx hb dX12_pass_41 (by decide) ?_
      refine lv_icmp_le (tgt := 51) hx hb dX12_pass_43 (by decide) (fun c15 => ?_) (fun c15 => ?_)
      · have h := sy_t c15 h
        refine lv_aload_n hx hb dX12_pass_51 rfl (lv_at hl 3 rfl) ?_
        refine lv_iconst (v := 1) hx hb dX12_pass_52 (by decide) ?_
        obtain ⟨g16, h⟩ := sy_g_e h
        refine sy_iald fx X h0 g16 dX12_pass_53 ?_
        refine lv_iload_n hx hb dX12_pass_54 rfl (lv_at hl 1 rfl) ?_
        refine lv_iadd hx hb dX12_pass_55 ?_
        refine lv_iload hx hb dX12_pass_56 (lv_at hl 0 rfl) ?_
        refine lv_isub hx hb dX12_pass_58 ?_
        exact J_59 1 (((S6 a0 ((1 : Int32).toNatClampNeg)) + t0) - r7) S6 _ _ _ X (lv_sub hl [2, 3] rfl) h
      · have h := sy_f c15 h
        refine lv_bipush (v := 99) hx hb dX12_pass_46 (by decide) ?_
        refine lv_goto (tgt := 59) hx hb dX12_pass_48 (by decide) ?_
        exact J_59 1 99 S6 _ _ _ X (lv_sub hl [2, 3] rfl) h
  unfold m_Model_pass at h
  refine lv_aload_n hx hb dX12_pass_0 rfl (lv_at hl 0 rfl) ?_
  refine lv_aload_n hx hb dX12_pass_1 rfl (lv_at hl 1 rfl) ?_
  obtain ⟨r2, S1, hc3, h⟩ := sy_c_e h
  refine sy_vi (rest := []) fx hA X hl.1 (sy_OModel_o ht) (sy_en11 (sy_OModel_o ht).2) rfl (c_Model_weightOf l ht h0 hc3) cv_Model_weightOf wm_421 ⟨Nat.le_of_ble_eq_true rfl, Nat.le_of_ble_eq_true rfl, Nat.le_refl _, Nat.le_refl _⟩ rfl rfl (Nat.le_of_ble_eq_true rfl) dX12_pass_2 (fun H locs X => ?_)
  refine lv_iload_n hx hb dX12_pass_5 rfl (lv_at hl 2 rfl) ?_
  refine lv_isub hx hb dX12_pass_6 ?_
  obtain ⟨x4, hx4, h⟩ := sy_b_e h
  refine sy_top hx4 ?_
  refine lv_istore_n (lv' := [(3, .int x4), (0, .ref (sy_ad E 392)), (1, .ref (sy_ad E a0)), (2, .int p1)]) hx hb dX12_pass_7 rfl hl (by decide) rfl (fun ls hl => ?_)
  refine lv_iload_n hx hb dX12_pass_8 rfl (lv_at hl 0 rfl) ?_
  refine lv_if_ge (tgt := 16) hx hb dX12_pass_9 (by decide) (fun c5 => ?_) (fun c5 => ?_)
  · have h := sy_t c5 h
    refine lv_iload_n hx hb dX12_pass_16 rfl (lv_at hl 0 rfl) ?_
    exact J_17 x4 S1 _ _ _ X (lv_sub hl [1, 2] rfl) h
  · have h := sy_f c5 h
    refine lv_iconst (v := 0) hx hb dX12_pass_12 (by decide) ?_
    refine lv_goto (tgt := 17) hx hb dX12_pass_13 (by decide) ?_
    exact J_17 0 S1 _ _ _ X (lv_sub hl [1, 2] rfl) h
