def m_Top_offer (p0 : Int32) (p1 : Int32) (S : sy_St) : sy_R := sy_c (m_Edge_isPerson 1 p0 S) fun r2 S1 => if r2 = 0 then (some ((-1000000001), S1)) else (sy_c (m_Top_isWord p1 S1) fun r6 S5 => if r6 = 0 then (some ((-1000000002), S5)) else (sy_c (m_Sky_isHolding 45 p0 S5) fun r10 S9 => if r10 = 0 then (sy_c (m_Sky_trick 45 p0 p1 S9) fun r14 S13 => if r14 = 0 then (some (0, S13)) else (some (1, S13))) else (some ((-1000000003), S9))))
theorem cv_Top_offer : sy_cV RX11 yX11_offer cX11_offer 3 (some .int) 2 := ⟨wm_548, wm_549, wm_2, wm_550, by decide +kernel⟩
set_option maxRecDepth 100000 in
set_option maxHeartbeats 40000000 in
theorem c_Top_offer (l : Launch) {E : sy_ET} (ht : sy_OTop E) {p0 : Int32} {p1 : Int32} {S S' : sy_St} {r : Int32} (h : m_Top_offer p0 p1 S = some (r, S')) : sy_MI l yX11_offer cX11_offer 3 (some .int) 3 65 [.ref (sy_ad E 0), .int p0, .int p1] E S r S' := by
  refine sy_MI_of RX11 pn_11 rfl (Nat.le_of_ble_eq_true rfl) (fun p e s m args below meth c A ls fx hr hlk hA X hl => ?_)
  have hx := fx.1
  have hb := fx.2.1
  have hown := fx.2.2.2.1
  have hts := fx.2.2.2.2
  have hl : lv_has ls 3 [(0, .ref (sy_ad E 0)), (1, .int p0), (2, .int p1)] := hl
  unfold m_Top_offer at h
  refine lv_aload_n hx hb dX11_offer_0 rfl (lv_at hl 0 rfl) ?_
  refine sy_q10 fx X (sy_OTop_o ht) 0 (by decide) wm_18 (fun _ h9 => h9) rfl (sy_OTop_r0 ht) dX11_offer_1 ?_
  refine lv_iload_n hx hb dX11_offer_4 rfl (lv_at hl 1 rfl) ?_
  obtain ⟨r2, S1, hc3, h⟩ := sy_c_e h
  refine sy_vi (rest := []) fx hA X hl.1 (sy_OEdge_o (sy_OTop_a0 ht)) (sy_en3 (sy_OEdge_o (sy_OTop_a0 ht)).2) rfl (c_Edge_isPerson l (sy_OTop_a0 ht) hc3) cv_Edge_isPerson wm_451 ⟨Nat.le_of_ble_eq_true rfl, Nat.le_of_ble_eq_true rfl, Nat.le_refl _, Nat.le_refl _⟩ rfl rfl (Nat.le_of_ble_eq_true rfl) dX11_offer_5 (fun H locs X => ?_)
  refine lv_if_ne (tgt := 14) hx hb dX11_offer_8 (by decide) (fun c4 => ?_) (fun c4 => ?_)
  · have h := sy_f c4 h
    refine lv_iload_n hx hb dX11_offer_14 rfl (lv_at hl 2 rfl) ?_
    obtain ⟨r6, S5, hc7, h⟩ := sy_c_e h
    refine sy_si (rest := []) fx hA X hl.1 (c_Top_isWord l hc7) cv_Top_isWord wm_467 ⟨Nat.le_of_ble_eq_true rfl, Nat.le_of_ble_eq_true rfl, Nat.le_refl _, Nat.le_refl _⟩ rfl rfl (Nat.le_of_ble_eq_true rfl) dX11_offer_15 (fun H locs X => ?_)
    refine lv_if_ne (tgt := 24) hx hb dX11_offer_18 (by decide) (fun c8 => ?_) (fun c8 => ?_)
    · have h := sy_f c8 h
      refine lv_aload_n hx hb dX11_offer_24 rfl (lv_at hl 0 rfl) ?_
      refine sy_q10 fx X (sy_OTop_o ht) 2 (by decide) wm_23 (fun _ h9 => h9) rfl (sy_OTop_r2 ht) dX11_offer_25 ?_
      refine lv_iload_n hx hb dX11_offer_28 rfl (lv_at hl 1 rfl) ?_
      obtain ⟨r10, S9, hc11, h⟩ := sy_c_e h
      refine sy_vi (rest := []) fx hA X hl.1 (sy_OSky_o (sy_OTop_a2 ht)) (sy_en9 (sy_OSky_o (sy_OTop_a2 ht)).2) rfl (c_Sky_isHolding l (sy_OTop_a2 ht) hc11) cv_Sky_isHolding wm_551 ⟨Nat.le_of_ble_eq_true rfl, Nat.le_of_ble_eq_true rfl, Nat.le_refl _, Nat.le_refl _⟩ rfl rfl (Nat.le_of_ble_eq_true rfl) dX11_offer_29 (fun H locs X => ?_)
      refine lv_if_eq (tgt := 38) hx hb dX11_offer_32 (by decide) (fun c12 => ?_) (fun c12 => ?_)
      · have h := sy_t c12 h
        refine lv_aload_n hx hb dX11_offer_38 rfl (lv_at hl 0 rfl) ?_
        refine sy_q10 fx X (sy_OTop_o ht) 2 (by decide) wm_23 (fun _ h9 => h9) rfl (sy_OTop_r2 ht) dX11_offer_39 ?_
        refine lv_iload_n hx hb dX11_offer_42 rfl (lv_at hl 1 rfl) ?_
        refine lv_iload_n hx hb dX11_offer_43 rfl (lv_at hl 2 rfl) ?_
        obtain ⟨r14, S13, hc15, h⟩ := sy_c_e h
        refine sy_vi (rest := []) fx hA X hl.1 (sy_OSky_o (sy_OTop_a2 ht)) (sy_en9 (sy_OSky_o (sy_OTop_a2 ht)).2) rfl (c_Sky_trick l (sy_OTop_a2 ht) hc15) cv_Sky_trick wm_552 ⟨Nat.le_of_ble_eq_true rfl, Nat.le_of_ble_eq_true rfl, Nat.le_refl _, Nat.le_refl _⟩ rfl rfl (Nat.le_of_ble_eq_true rfl) dX11_offer_44 (fun H locs X => ?_)
        refine lv_if_eq (tgt := 54) hx hb dX11_offer_47 (by decide) (fun c16 => ?_) (fun c16 => ?_)
        · have h := sy_t c16 h
          refine lv_iconst (v := 0) hx hb dX11_offer_54 (by decide) ?_
          exact sy_iret fx X hr hlk h dX11_offer_55
        · have h := sy_f c16 h
          refine lv_iconst (v := 1) hx hb dX11_offer_50 (by decide) ?_
          refine lv_goto (tgt := 55) hx hb dX11_offer_51 (by decide) ?_
          exact sy_iret fx X hr hlk h dX11_offer_55
      · have h := sy_f c12 h
        refine lv_ldc (v := (-1000000003)) hx hb hown (hts _ wm_478) dX11_offer_35 ?_
        exact sy_iret fx X hr hlk h dX11_offer_37
    · have h := sy_t c8 h
      refine lv_ldc (v := (-1000000002)) hx hb hown (hts _ wm_196) dX11_offer_21 ?_
      exact sy_iret fx X hr hlk h dX11_offer_23
  · have h := sy_t c4 h
    refine lv_ldc (v := (-1000000001)) hx hb hown (hts _ wm_441) dX11_offer_11 ?_
    exact sy_iret fx X hr hlk h dX11_offer_13
def m_Top_owes (p0 : Int32) (S : sy_St) : sy_R := sy_c (m_Edge_isPerson 1 p0 S) fun r2 S1 => if r2 = 0 then (some ((-1000000001), S1)) else (sy_c (m_Debts_ofOne 45 p0 S1) fun r6 S5 => some (r6, S5))
theorem cv_Top_owes : sy_cV RX11 yX11_owes cX11_owes 2 (some .int) 1 := ⟨wm_857, wm_858, wm_2, wm_859, by decide +kernel⟩
set_option maxRecDepth 100000 in
set_option maxHeartbeats 40000000 in
theorem c_Top_owes (l : Launch) {E : sy_ET} (ht : sy_OTop E) {p0 : Int32} {S S' : sy_St} {r : Int32} (h : m_Top_owes p0 S = some (r, S')) : sy_MI l yX11_owes cX11_owes 2 (some .int) 1 24 [.ref (sy_ad E 0), .int p0] E S r S' := by
  refine sy_MI_of RX11 pn_11 rfl (Nat.le_of_ble_eq_true rfl) (fun p e s m args below meth c A ls fx hr hlk hA X hl => ?_)
  have hx := fx.1
  have hb := fx.2.1
  have hown := fx.2.2.2.1
  have hts := fx.2.2.2.2
  have hl : lv_has ls 2 [(0, .ref (sy_ad E 0)), (1, .int p0)] := hl
  unfold m_Top_owes at h
  refine lv_aload_n hx hb dX11_owes_0 rfl (lv_at hl 0 rfl) ?_
  refine sy_q10 fx X (sy_OTop_o ht) 0 (by decide) wm_18 (fun _ h9 => h9) rfl (sy_OTop_r0 ht) dX11_owes_1 ?_
  refine lv_iload_n hx hb dX11_owes_4 rfl (lv_at hl 1 rfl) ?_
  obtain ⟨r2, S1, hc3, h⟩ := sy_c_e h
  refine sy_vi (rest := []) fx hA X hl.1 (sy_OEdge_o (sy_OTop_a0 ht)) (sy_en3 (sy_OEdge_o (sy_OTop_a0 ht)).2) rfl (c_Edge_isPerson l (sy_OTop_a0 ht) hc3) cv_Edge_isPerson wm_451 ⟨Nat.le_of_ble_eq_true rfl, Nat.le_of_ble_eq_true rfl, Nat.le_refl _, Nat.le_refl _⟩ rfl rfl (Nat.le_of_ble_eq_true rfl) dX11_owes_5 (fun H locs X => ?_)
  refine lv_if_eq (tgt := 26) hx hb dX11_owes_8 (by decide) (fun c4 => ?_) (fun c4 => ?_)
  · have h := sy_t c4 h
    refine lv_ldc (v := (-1000000001)) hx hb hown (hts _ wm_441) dX11_owes_26 ?_
    exact sy_iret fx X hr hlk h dX11_owes_28
  · have h := sy_f c4 h
    refine lv_aload_n hx hb dX11_owes_11 rfl (lv_at hl 0 rfl) ?_
    refine sy_q10 fx X (sy_OTop_o ht) 12 (by decide) wm_53 (fun _ h9 => h9) rfl (sy_OTop_r12 ht) dX11_owes_12 ?_
    refine lv_aload_n hx hb dX11_owes_15 rfl (lv_at hl 0 rfl) ?_
    refine sy_q10 fx X (sy_OTop_o ht) 2 (by decide) wm_23 (fun _ h9 => h9) rfl (sy_OTop_r2 ht) dX11_owes_16 ?_
    refine lv_iload_n hx hb dX11_owes_19 rfl (lv_at hl 1 rfl) ?_
    obtain ⟨r6, S5, hc7, h⟩ := sy_c_e h
    refine sy_vi (rest := []) fx hA X hl.1 (sy_ODebts_o (sy_OTop_a12 ht)) (sy_en2 (sy_ODebts_o (sy_OTop_a12 ht)).2) rfl (c_Debts_ofOne l (sy_OTop_a12 ht) (sy_OTop_a2 ht) hc7) cv_Debts_ofOne wm_860 ⟨Nat.le_of_ble_eq_true rfl, Nat.le_of_ble_eq_true rfl, Nat.le_refl _, Nat.le_refl _⟩ rfl rfl (Nat.le_of_ble_eq_true rfl) dX11_owes_20 (fun H locs X => ?_)
    refine lv_goto (tgt := 28) hx hb dX11_owes_23 (by decide) ?_
    exact sy_iret fx X hr hlk h dX11_owes_28
def m_Top_pair_B40 (kk22 : Int32 → Int32 → Int32 → Int32 → Int32 → sy_St → sy_R) (kk40 : Int32 → Int32 → Int32 → Int32 → Int32 → Int32 → sy_St → sy_R) (y1 : Int32) (y2 : Int32) (y3 : Int32) (y4 : Int32) (y5 : Int32) (y6 : Int32) (S : sy_St) : sy_R := if (S 1 8) ≤ y6 then (sy_b (y5 + 1 : Int32) fun x8 => kk22 y1 y2 y3 y4 x8 S) else (sy_c (m_Sky_forceOf 45 y5 S) fun r10 S9 => sy_c (m_Sky_forceOf 45 y6 S9) fun r13 S12 => sy_b (r10 + r13 : Int32) fun x15 => sy_c (m_Edge_areLevel 1 y5 y6 S12) fun r17 S16 => if r17 = 0 then (sy_b (y6 + 1 : Int32) fun x20 => kk40 y1 y2 y3 y4 y5 x20 S16) else (if y4 < x15 then (sy_b (y6 + 1 : Int32) fun x22 => kk40 y1 y5 y6 x15 y5 x22 S16) else (sy_b (y6 + 1 : Int32) fun x23 => kk40 y1 y2 y3 y4 y5 x23 S16)))
def m_Top_pair_B22 (kk22 : Int32 → Int32 → Int32 → Int32 → Int32 → sy_St → sy_R) (y1 : Int32) (y2 : Int32) (y3 : Int32) (y4 : Int32) (y5 : Int32) (S : sy_St) : sy_R := if (S 1 8) ≤ y5 then (if y1 = 0 then (some (y2, S)) else (if y1 = 1 then (some (y3, S)) else (some (y4, S)))) else (sy_b (y5 + 1 : Int32) fun x6 => sy_fix (fun _ _ _ _ _ _ _ => none) (m_Top_pair_B40 kk22) sy_F y1 y2 y3 y4 y5 x6 S)
def m_Top_pair (p0 : Int32) (S : sy_St) : sy_R := if p0 < 0 then (some ((-1000000002), S)) else (if p0 ≤ 2 then (sy_fix (fun _ _ _ _ _ _ => none) (m_Top_pair_B22) sy_F p0 (-1) (-1) (-1) 0 S) else (some ((-1000000002), S)))
theorem cv_Top_pair : sy_cV RX11 yX11_pair cX11_pair 8 (some .int) 1 := ⟨wm_849, wm_850, wm_2, wm_851, by decide +kernel⟩
set_option maxRecDepth 100000 in
set_option maxHeartbeats 40000000 in
theorem c_Top_pair (l : Launch) {E : sy_ET} (ht : sy_OTop E) {p0 : Int32} {S S' : sy_St} {r : Int32} (h : m_Top_pair p0 S = some (r, S')) : sy_MI l yX11_pair cX11_pair 8 (some .int) 2 54 [.ref (sy_ad E 0), .int p0] E S r S' := by
  refine sy_MI_of RX11 pn_11 rfl (Nat.le_of_ble_eq_true rfl) (fun p e s m args below meth c A ls fx hr hlk hA X hl => ?_)
  have hx := fx.1
  have hb := fx.2.1
  have hown := fx.2.2.2.1
  have hts := fx.2.2.2.2
  have hl : lv_has ls 8 [(0, .ref (sy_ad E 0)), (1, .int p0)] := hl
  have L_22 : ∀ (n22 : Nat) (y1 y2 y3 y4 y5 : Int32) (S : sy_St) (H : Heap) (locs : List Loc) (ls : Array Slot), sy_Wd E A s S H locs → lv_has ls 8 [(0, .ref (sy_ad E 0)), (1, .int y1), (2, .int y2), (3, .int y3), (4, .int y4), (5, .int y5)] → sy_fix (fun _ _ _ _ _ _ => none) (m_Top_pair_B22) n22 y1 y2 y3 y4 y5 S = some (r, S') → W p l e (sy_rm 2 54) s m args below meth c H locs 0 0 (MQ below (sy_Qi E A r S') args s 0 0 A) (F0 m 22 ls []) := by
    intro n22
    induction n22 with
    | zero => intro y1 y2 y3 y4 y5 S H locs ls X hl h; have h9 : (none : sy_R) = some (r, S') := h; cases h9
    | succ n22 ih22 =>
      have L_40 : ∀ (n40 : Nat) (y1 y2 y3 y4 y5 y6 : Int32) (S : sy_St) (H : Heap) (locs : List Loc) (ls : Array Slot), sy_Wd E A s S H locs → lv_has ls 8 [(0, .ref (sy_ad E 0)), (1, .int y1), (2, .int y2), (3, .int y3), (4, .int y4), (5, .int y5), (6, .int y6)] → sy_fix (fun _ _ _ _ _ _ _ => none) (m_Top_pair_B40 (sy_fix (fun _ _ _ _ _ _ => none) (m_Top_pair_B22) n22)) n40 y1 y2 y3 y4 y5 y6 S = some (r, S') → W p l e (sy_rm 2 54) s m args below meth c H locs 0 0 (MQ below (sy_Qi E A r S') args s 0 0 A) (F0 m 40 ls []) := by
        intro n40
        induction n40 with
        | zero => intro y1 y2 y3 y4 y5 y6 S H locs ls X hl h; have h9 : (none : sy_R) = some (r, S') := h; cases h9
        | succ n40 ih40 =>
          intro y1 y2 y3 y4 y5 y6 S H locs ls X hl h
          have h : m_Top_pair_B40 (sy_fix (fun _ _ _ _ _ _ => none) (m_Top_pair_B22) n22) (sy_fix (fun _ _ _ _ _ _ _ => none) (m_Top_pair_B40 (sy_fix (fun _ _ _ _ _ _ => none) (m_Top_pair_B22) n22)) n40) y1 y2 y3 y4 y5 y6 S = some (r, S') := h
          unfold m_Top_pair_B40 at h
          refine lv_iload hx hb dX11_pair_40 (lv_at hl 6 rfl) ?_
          refine lv_aload_n hx hb dX11_pair_42 rfl (lv_at hl 0 rfl) ?_
          refine sy_q10 fx X (sy_OTop_o ht) 0 (by decide) wm_18 (fun _ h9 => h9) rfl (sy_OTop_r0 ht) dX11_pair_43 ?_
          refine sy_g3 fx X (sy_OEdge_o (sy_OTop_a0 ht)) 8 (by decide) wm_221 (fun _ h9 => h9) rfl dX11_pair_46 ?_
          refine lv_icmp_ge (tgt := 113) hx hb dX11_pair_49 (by decide) (fun c7 => ?_) (fun c7 => ?_)
          · have h := sy_t c7 h
            obtain ⟨x8, hx8, h⟩ := sy_b_e h
            refine lv_iinc (v := x8) (lv' := [(5, .int x8), (0, .ref (sy_ad E 0)), (1, .int y1), (2, .int y2), (3, .int y3), (4, .int y4), (6, .int y6)]) hx hb dX11_pair_113 hl (k := 5) rfl (by rw [hx8]; rfl) (by decide) rfl (fun ls hl => ?_)
            refine lv_goto (tgt := 22) hx hb dX11_pair_116 (by decide) ?_
            exact ih22 y1 y2 y3 y4 x8 S _ _ _ X (lv_sub hl [1, 2, 3, 4, 5, 0] rfl) h
          · have h := sy_f c7 h
            refine lv_aload_n hx hb dX11_pair_52 rfl (lv_at hl 0 rfl) ?_
            refine sy_q10 fx X (sy_OTop_o ht) 2 (by decide) wm_23 (fun _ h9 => h9) rfl (sy_OTop_r2 ht) dX11_pair_53 ?_
            refine lv_iload hx hb dX11_pair_56 (lv_at hl 5 rfl) ?_
            obtain ⟨r10, S9, hc11, h⟩ := sy_c_e h
            refine sy_vi (rest := []) fx hA X hl.1 (sy_OSky_o (sy_OTop_a2 ht)) (sy_en9 (sy_OSky_o (sy_OTop_a2 ht)).2) rfl (c_Sky_forceOf l (sy_OTop_a2 ht) hc11) cv_Sky_forceOf wm_452 ⟨Nat.le_of_ble_eq_true rfl, Nat.le_of_ble_eq_true rfl, Nat.le_refl _, Nat.le_refl _⟩ rfl rfl (Nat.le_of_ble_eq_true rfl) dX11_pair_58 (fun H locs X => ?_)
            refine lv_aload_n hx hb dX11_pair_61 rfl (lv_at hl 0 rfl) ?_
            refine sy_q10 fx X (sy_OTop_o ht) 2 (by decide) wm_23 (fun _ h9 => h9) rfl (sy_OTop_r2 ht) dX11_pair_62 ?_
            refine lv_iload hx hb dX11_pair_65 (lv_at hl 6 rfl) ?_
            obtain ⟨r13, S12, hc14, h⟩ := sy_c_e h
            refine sy_vi (rest := [.int r10]) fx hA X hl.1 (sy_OSky_o (sy_OTop_a2 ht)) (sy_en9 (sy_OSky_o (sy_OTop_a2 ht)).2) rfl (c_Sky_forceOf l (sy_OTop_a2 ht) hc14) cv_Sky_forceOf wm_452 ⟨Nat.le_of_ble_eq_true rfl, Nat.le_of_ble_eq_true rfl, Nat.le_refl _, Nat.le_refl _⟩ rfl rfl (Nat.le_of_ble_eq_true rfl) dX11_pair_67 (fun H locs X => ?_)
            refine lv_iadd hx hb dX11_pair_70 ?_
            obtain ⟨x15, hx15, h⟩ := sy_b_e h
            refine sy_top hx15 ?_
            refine lv_istore (lv' := [(7, .int x15), (0, .ref (sy_ad E 0)), (1, .int y1), (2, .int y2), (3, .int y3), (4, .int y4), (5, .int y5), (6, .int y6)]) hx hb dX11_pair_71 hl (by decide) rfl (fun ls hl => ?_)
            refine lv_aload_n hx hb dX11_pair_73 rfl (lv_at hl 1 rfl) ?_
            refine sy_q10 fx X (sy_OTop_o ht) 0 (by decide) wm_18 (fun _ h9 => h9) rfl (sy_OTop_r0 ht) dX11_pair_74 ?_
            refine lv_iload hx hb dX11_pair_77 (lv_at hl 6 rfl) ?_
            refine lv_iload hx hb dX11_pair_79 (lv_at hl 7 rfl) ?_
            obtain ⟨r17, S16, hc18, h⟩ := sy_c_e h
            refine sy_vi (rest := []) fx hA X hl.1 (sy_OEdge_o (sy_OTop_a0 ht)) (sy_en3 (sy_OEdge_o (sy_OTop_a0 ht)).2) rfl (c_Edge_areLevel l (sy_OTop_a0 ht) hc18) cv_Edge_areLevel wm_618 ⟨Nat.le_of_ble_eq_true rfl, Nat.le_of_ble_eq_true rfl, Nat.le_refl _, Nat.le_refl _⟩ rfl rfl (Nat.le_of_ble_eq_true rfl) dX11_pair_81 (fun H locs X => ?_)
            refine lv_if_eq (tgt := 107) hx hb dX11_pair_84 (by decide) (fun c19 => ?_) (fun c19 => ?_)
            · have h := sy_t c19 h
              obtain ⟨x20, hx20, h⟩ := sy_b_e h
              refine lv_iinc (v := x20) (lv' := [(6, .int x20), (7, .int x15), (0, .ref (sy_ad E 0)), (1, .int y1), (2, .int y2), (3, .int y3), (4, .int y4), (5, .int y5)]) hx hb dX11_pair_107 hl (k := 7) rfl (by rw [hx20]; rfl) (by decide) rfl (fun ls hl => ?_)
              refine lv_goto (tgt := 40) hx hb dX11_pair_110 (by decide) ?_
              exact ih40 y1 y2 y3 y4 y5 x20 S16 _ _ _ X (lv_sub hl [2, 3, 4, 5, 6, 7, 0] rfl) h
            · have h := sy_f c19 h
              refine lv_iload hx hb dX11_pair_87 (lv_at hl 0 rfl) ?_
              refine lv_iload hx hb dX11_pair_89 (lv_at hl 5 rfl) ?_
              refine lv_icmp_gt (tgt := 97) hx hb dX11_pair_91 (by decide) (fun c21 => ?_) (fun c21 => ?_)
              · have h := sy_t c21 h
                refine lv_iload hx hb dX11_pair_97 (lv_at hl 6 rfl) ?_
                refine lv_istore_n (lv' := [(2, .int y5), (7, .int x15), (0, .ref (sy_ad E 0)), (1, .int y1), (3, .int y3), (4, .int y4), (5, .int y5), (6, .int y6)]) hx hb dX11_pair_99 rfl hl (by decide) rfl (fun ls hl => ?_)
                refine lv_iload hx hb dX11_pair_100 (lv_at hl 7 rfl) ?_
                refine lv_istore_n (lv' := [(3, .int y6), (2, .int y5), (7, .int x15), (0, .ref (sy_ad E 0)), (1, .int y1), (4, .int y4), (5, .int y5), (6, .int y6)]) hx hb dX11_pair_102 rfl hl (by decide) rfl (fun ls hl => ?_)
                refine lv_iload hx hb dX11_pair_103 (lv_at hl 2 rfl) ?_
                refine lv_istore (lv' := [(4, .int x15), (3, .int y6), (2, .int y5), (7, .int x15), (0, .ref (sy_ad E 0)), (1, .int y1), (5, .int y5), (6, .int y6)]) hx hb dX11_pair_105 hl (by decide) rfl (fun ls hl => ?_)
                obtain ⟨x22, hx22, h⟩ := sy_b_e h
                refine lv_iinc (v := x22) (lv' := [(6, .int x22), (4, .int x15), (3, .int y6), (2, .int y5), (7, .int x15), (0, .ref (sy_ad E 0)), (1, .int y1), (5, .int y5)]) hx hb dX11_pair_107 hl (k := 7) rfl (by rw [hx22]; rfl) (by decide) rfl (fun ls hl => ?_)
                refine lv_goto (tgt := 40) hx hb dX11_pair_110 (by decide) ?_
                exact ih40 y1 y5 y6 x15 y5 x22 S16 _ _ _ X (lv_sub hl [5, 6, 3, 2, 1, 7, 0] rfl) h
              · have h := sy_f c21 h
                refine lv_goto (tgt := 107) hx hb dX11_pair_94 (by decide) ?_
                obtain ⟨x23, hx23, h⟩ := sy_b_e h
                refine lv_iinc (v := x23) (lv' := [(6, .int x23), (7, .int x15), (0, .ref (sy_ad E 0)), (1, .int y1), (2, .int y2), (3, .int y3), (4, .int y4), (5, .int y5)]) hx hb dX11_pair_107 hl (k := 7) rfl (by rw [hx23]; rfl) (by decide) rfl (fun ls hl => ?_)
                refine lv_goto (tgt := 40) hx hb dX11_pair_110 (by decide) ?_
                exact ih40 y1 y2 y3 y4 y5 x23 S16 _ _ _ X (lv_sub hl [2, 3, 4, 5, 6, 7, 0] rfl) h
      intro y1 y2 y3 y4 y5 S H locs ls X hl h
      have h : m_Top_pair_B22 (sy_fix (fun _ _ _ _ _ _ => none) (m_Top_pair_B22) n22) y1 y2 y3 y4 y5 S = some (r, S') := h
      unfold m_Top_pair_B22 at h
      refine lv_iload hx hb dX11_pair_22 (lv_at hl 5 rfl) ?_
      refine lv_aload_n hx hb dX11_pair_24 rfl (lv_at hl 0 rfl) ?_
      refine sy_q10 fx X (sy_OTop_o ht) 0 (by decide) wm_18 (fun _ h9 => h9) rfl (sy_OTop_r0 ht) dX11_pair_25 ?_
      refine sy_g3 fx X (sy_OEdge_o (sy_OTop_a0 ht)) 8 (by decide) wm_221 (fun _ h9 => h9) rfl dX11_pair_28 ?_
      refine lv_icmp_ge (tgt := 119) hx hb dX11_pair_31 (by decide) (fun c3 => ?_) (fun c3 => ?_)
      · have h := sy_t c3 h
        refine lv_iload_n hx hb dX11_pair_119 rfl (lv_at hl 1 rfl) ?_
        refine lv_if_ne (tgt := 125) hx hb dX11_pair_120 (by decide) (fun c4 => ?_) (fun c4 => ?_)
        · have h := sy_f c4 h
          refine lv_iload_n hx hb dX11_pair_125 rfl (lv_at hl 1 rfl) ?_
          refine lv_iconst (v := 1) hx hb dX11_pair_126 (by decide) ?_
          refine lv_icmp_ne (tgt := 134) hx hb dX11_pair_127 (by decide) (fun c5 => ?_) (fun c5 => ?_)
          · have h := sy_f c5 h
            refine lv_iload hx hb dX11_pair_134 (lv_at hl 4 rfl) ?_
            exact sy_iret fx X hr hlk h dX11_pair_136
          · have h := sy_t c5 h
            refine lv_iload_n hx hb dX11_pair_130 rfl (lv_at hl 3 rfl) ?_
            refine lv_goto (tgt := 136) hx hb dX11_pair_131 (by decide) ?_
            exact sy_iret fx X hr hlk h dX11_pair_136
        · have h := sy_t c4 h
          refine lv_iload_n hx hb dX11_pair_123 rfl (lv_at hl 2 rfl) ?_
          exact sy_iret fx X hr hlk h dX11_pair_124
      · have h := sy_f c3 h
        refine lv_iload hx hb dX11_pair_34 (lv_at hl 5 rfl) ?_
        refine lv_iconst (v := 1) hx hb dX11_pair_36 (by decide) ?_
        refine lv_iadd hx hb dX11_pair_37 ?_
        obtain ⟨x6, hx6, h⟩ := sy_b_e h
        refine sy_top hx6 ?_
        refine lv_istore (lv' := [(6, .int x6), (0, .ref (sy_ad E 0)), (1, .int y1), (2, .int y2), (3, .int y3), (4, .int y4), (5, .int y5)]) hx hb dX11_pair_38 hl (by decide) rfl (fun ls hl => ?_)
        exact L_40 sy_F y1 y2 y3 y4 y5 x6 S _ _ _ X (lv_sub hl [1, 2, 3, 4, 5, 6, 0] rfl) h
  unfold m_Top_pair at h
  refine lv_iload_n hx hb dX11_pair_0 rfl (lv_at hl 1 rfl) ?_
  refine lv_if_lt (tgt := 9) hx hb dX11_pair_1 (by decide) (fun c1 => ?_) (fun c1 => ?_)
  · have h := sy_t c1 h
    refine lv_ldc (v := (-1000000002)) hx hb hown (hts _ wm_196) dX11_pair_9 ?_
    exact sy_iret fx X hr hlk h dX11_pair_11
  · have h := sy_f c1 h
    refine lv_iload_n hx hb dX11_pair_4 rfl (lv_at hl 1 rfl) ?_
    refine lv_iconst (v := 2) hx hb dX11_pair_5 (by decide) ?_
    refine lv_icmp_le (tgt := 12) hx hb dX11_pair_6 (by decide) (fun c2 => ?_) (fun c2 => ?_)
    · have h := sy_t c2 h
      refine lv_iconst (v := (-1)) hx hb dX11_pair_12 (by decide) ?_
      refine lv_istore_n (lv' := [(2, .int (-1)), (0, .ref (sy_ad E 0)), (1, .int p0)]) hx hb dX11_pair_13 rfl hl (by decide) rfl (fun ls hl => ?_)
      refine lv_iconst (v := (-1)) hx hb dX11_pair_14 (by decide) ?_
      refine lv_istore_n (lv' := [(3, .int (-1)), (2, .int (-1)), (0, .ref (sy_ad E 0)), (1, .int p0)]) hx hb dX11_pair_15 rfl hl (by decide) rfl (fun ls hl => ?_)
      refine lv_iconst (v := (-1)) hx hb dX11_pair_16 (by decide) ?_
      refine lv_istore (lv' := [(4, .int (-1)), (3, .int (-1)), (2, .int (-1)), (0, .ref (sy_ad E 0)), (1, .int p0)]) hx hb dX11_pair_17 hl (by decide) rfl (fun ls hl => ?_)
      refine lv_iconst (v := 0) hx hb dX11_pair_19 (by decide) ?_
      refine lv_istore (lv' := [(5, .int 0), (4, .int (-1)), (3, .int (-1)), (2, .int (-1)), (0, .ref (sy_ad E 0)), (1, .int p0)]) hx hb dX11_pair_20 hl (by decide) rfl (fun ls hl => ?_)
      exact L_22 sy_F p0 (-1) (-1) (-1) 0 S _ _ _ X (lv_sub hl [4, 5, 3, 2, 1, 0] rfl) h
    · have h := sy_f c2 h
      refine lv_ldc (v := (-1000000002)) hx hb hown (hts _ wm_196) dX11_pair_9 ?_
      exact sy_iret fx X hr hlk h dX11_pair_11
def m_Top_payments (S : sy_St) : sy_R := sy_c (m_Debts_fewestPayments 45 S) fun r2 S1 => some (r2, S1)
theorem cv_Top_payments : sy_cV RX11 yX11_payments cX11_payments 1 (some .int) 0 := ⟨wm_875, wm_876, wm_2, wm_877, by decide +kernel⟩
set_option maxRecDepth 100000 in
set_option maxHeartbeats 40000000 in
theorem c_Top_payments (l : Launch) {E : sy_ET} (ht : sy_OTop E) {S S' : sy_St} {r : Int32} (h : m_Top_payments S = some (r, S')) : sy_MI l yX11_payments cX11_payments 1 (some .int) 2 55 [.ref (sy_ad E 0)] E S r S' := by
  refine sy_MI_of RX11 pn_11 rfl (Nat.le_of_ble_eq_true rfl) (fun p e s m args below meth c A ls fx hr hlk hA X hl => ?_)
  have hx := fx.1
  have hb := fx.2.1
  have hown := fx.2.2.2.1
  have hts := fx.2.2.2.2
  have hl : lv_has ls 1 [(0, .ref (sy_ad E 0))] := hl
  unfold m_Top_payments at h
  refine lv_aload_n hx hb dX11_payments_0 rfl (lv_at hl 0 rfl) ?_
  refine sy_q10 fx X (sy_OTop_o ht) 12 (by decide) wm_53 (fun _ h9 => h9) rfl (sy_OTop_r12 ht) dX11_payments_1 ?_
  refine lv_aload_n hx hb dX11_payments_4 rfl (lv_at hl 0 rfl) ?_
  refine sy_q10 fx X (sy_OTop_o ht) 2 (by decide) wm_23 (fun _ h9 => h9) rfl (sy_OTop_r2 ht) dX11_payments_5 ?_
  obtain ⟨r2, S1, hc3, h⟩ := sy_c_e h
  refine sy_vi (rest := []) fx hA X hl.1 (sy_ODebts_o (sy_OTop_a12 ht)) (sy_en2 (sy_ODebts_o (sy_OTop_a12 ht)).2) rfl (c_Debts_fewestPayments l (sy_OTop_a12 ht) (sy_OTop_a2 ht) hc3) cv_Debts_fewestPayments wm_878 ⟨Nat.le_of_ble_eq_true rfl, Nat.le_of_ble_eq_true rfl, Nat.le_refl _, Nat.le_refl _⟩ rfl rfl (Nat.le_of_ble_eq_true rfl) dX11_payments_8 (fun H locs X => ?_)
  exact sy_iret fx X hr hlk h dX11_payments_11
def m_Top_person (p0 : Int32) (p1 : Int32) (S : sy_St) : sy_R := sy_c (m_Edge_isPerson 1 p0 S) fun r2 S1 => if r2 = 0 then (some ((-1000000001), S1)) else (if p1 = 0 then (sy_g (sy_in p0 6) <| some (S1 3 p0.toNatClampNeg, S1)) else if p1 = 1 then (sy_g (sy_in p0 6) <| some (S1 4 p0.toNatClampNeg, S1)) else if p1 = 2 then (sy_g (sy_in p0 6) <| some (S1 5 p0.toNatClampNeg, S1)) else if p1 = 3 then (sy_g (sy_in p0 6) <| some (S1 6 p0.toNatClampNeg, S1)) else if p1 = 4 then (sy_g (sy_in p0 6) <| some (S1 7 p0.toNatClampNeg, S1)) else if p1 = 5 then (sy_g (sy_in p0 6) <| some (S1 46 p0.toNatClampNeg, S1)) else if p1 = 6 then (sy_g (sy_in p0 6) <| some (S1 47 p0.toNatClampNeg, S1)) else if p1 = 7 then (sy_g (sy_in p0 6) <| some (S1 49 p0.toNatClampNeg, S1)) else if p1 = 8 then (sy_c (m_Sky_forceOf 45 p0 S1) fun r23 S22 => some (r23, S22)) else if p1 = 9 then (sy_g (sy_in p0 6) <| some (S1 48 p0.toNatClampNeg, S1)) else (some ((-1000000002), S1)))
theorem cv_Top_person : sy_cV RX11 yX11_person cX11_person 3 (some .int) 2 := ⟨wm_438, wm_439, wm_2, wm_440, by decide +kernel⟩
set_option maxRecDepth 100000 in
set_option maxHeartbeats 40000000 in
theorem c_Top_person (l : Launch) {E : sy_ET} (ht : sy_OTop E) {p0 : Int32} {p1 : Int32} {S S' : sy_St} {r : Int32} (h : m_Top_person p0 p1 S = some (r, S')) : sy_MI l yX11_person cX11_person 3 (some .int) 2 54 [.ref (sy_ad E 0), .int p0, .int p1] E S r S' := by
  refine sy_MI_of RX11 pn_11 rfl (Nat.le_of_ble_eq_true rfl) (fun p e s m args below meth c A ls fx hr hlk hA X hl => ?_)
  have hx := fx.1
  have hb := fx.2.1
  have hown := fx.2.2.2.1
  have hts := fx.2.2.2.2
  have hl : lv_has ls 3 [(0, .ref (sy_ad E 0)), (1, .int p0), (2, .int p1)] := hl
  unfold m_Top_person at h
  refine lv_aload_n hx hb dX11_person_0 rfl (lv_at hl 0 rfl) ?_
  refine sy_q10 fx X (sy_OTop_o ht) 0 (by decide) wm_18 (fun _ h9 => h9) rfl (sy_OTop_r0 ht) dX11_person_1 ?_
  refine lv_iload_n hx hb dX11_person_4 rfl (lv_at hl 1 rfl) ?_
  obtain ⟨r2, S1, hc3, h⟩ := sy_c_e h
  refine sy_vi (rest := []) fx hA X hl.1 (sy_OEdge_o (sy_OTop_a0 ht)) (sy_en3 (sy_OEdge_o (sy_OTop_a0 ht)).2) rfl (c_Edge_isPerson l (sy_OTop_a0 ht) hc3) cv_Edge_isPerson wm_451 ⟨Nat.le_of_ble_eq_true rfl, Nat.le_of_ble_eq_true rfl, Nat.le_refl _, Nat.le_refl _⟩ rfl rfl (Nat.le_of_ble_eq_true rfl) dX11_person_5 (fun H locs X => ?_)
  refine lv_if_ne (tgt := 14) hx hb dX11_person_8 (by decide) (fun c4 => ?_) (fun c4 => ?_)
  · have h := sy_f c4 h
    refine lv_iload_n hx hb dX11_person_14 rfl (lv_at hl 2 rfl) ?_
    rcases Decidable.em (p1 = 0) with c5 | c5
    · have h := sy_t c5 h
      refine sy_top c5.symm ?_
      refine lv_tableIn (off := 53) (tgt := 68) hx hb dX11_person_15 (by decide) (by decide) rfl (by decide) ?_
      refine lv_aload_n hx hb dX11_person_68 rfl (lv_at hl 0 rfl) ?_
      refine sy_q10 fx X (sy_OTop_o ht) 0 (by decide) wm_18 (fun _ h9 => h9) rfl (sy_OTop_r0 ht) dX11_person_69 ?_
      refine sy_q3 fx X (sy_OEdge_o (sy_OTop_a0 ht)) 1 (by decide) wm_442 (fun _ h9 => h9) rfl (sy_OEdge_r1 (sy_OTop_a0 ht)) dX11_person_72 ?_
      refine lv_iload_n hx hb dX11_person_75 rfl (lv_at hl 1 rfl) ?_
      obtain ⟨g6, h⟩ := sy_g_e h
      refine sy_iald fx X (sy_OEdge_a1 (sy_OTop_a0 ht)) g6 dX11_person_76 ?_
      exact sy_iret fx X hr hlk h dX11_person_77
    · have h := sy_f c5 h
      rcases Decidable.em (p1 = 1) with c7 | c7
      · have h := sy_t c7 h
        refine sy_top c7.symm ?_
        refine lv_tableIn (off := 63) (tgt := 78) hx hb dX11_person_15 (by decide) (by decide) rfl (by decide) ?_
        refine lv_aload_n hx hb dX11_person_78 rfl (lv_at hl 0 rfl) ?_
        refine sy_q10 fx X (sy_OTop_o ht) 0 (by decide) wm_18 (fun _ h9 => h9) rfl (sy_OTop_r0 ht) dX11_person_79 ?_
        refine sy_q3 fx X (sy_OEdge_o (sy_OTop_a0 ht)) 2 (by decide) wm_443 (fun _ h9 => h9) rfl (sy_OEdge_r2 (sy_OTop_a0 ht)) dX11_person_82 ?_
        refine lv_iload_n hx hb dX11_person_85 rfl (lv_at hl 1 rfl) ?_
        obtain ⟨g8, h⟩ := sy_g_e h
        refine sy_iald fx X (sy_OEdge_a2 (sy_OTop_a0 ht)) g8 dX11_person_86 ?_
        exact sy_iret fx X hr hlk h dX11_person_87
      · have h := sy_f c7 h
        rcases Decidable.em (p1 = 2) with c9 | c9
        · have h := sy_t c9 h
          refine sy_top c9.symm ?_
          refine lv_tableIn (off := 73) (tgt := 88) hx hb dX11_person_15 (by decide) (by decide) rfl (by decide) ?_
          refine lv_aload_n hx hb dX11_person_88 rfl (lv_at hl 0 rfl) ?_
          refine sy_q10 fx X (sy_OTop_o ht) 0 (by decide) wm_18 (fun _ h9 => h9) rfl (sy_OTop_r0 ht) dX11_person_89 ?_
          refine sy_q3 fx X (sy_OEdge_o (sy_OTop_a0 ht)) 3 (by decide) wm_444 (fun _ h9 => h9) rfl (sy_OEdge_r3 (sy_OTop_a0 ht)) dX11_person_92 ?_
          refine lv_iload_n hx hb dX11_person_95 rfl (lv_at hl 1 rfl) ?_
          obtain ⟨g10, h⟩ := sy_g_e h
          refine sy_iald fx X (sy_OEdge_a3 (sy_OTop_a0 ht)) g10 dX11_person_96 ?_
          exact sy_iret fx X hr hlk h dX11_person_97
        · have h := sy_f c9 h
          rcases Decidable.em (p1 = 3) with c11 | c11
          · have h := sy_t c11 h
            refine sy_top c11.symm ?_
            refine lv_tableIn (off := 83) (tgt := 98) hx hb dX11_person_15 (by decide) (by decide) rfl (by decide) ?_
            refine lv_aload_n hx hb dX11_person_98 rfl (lv_at hl 0 rfl) ?_
            refine sy_q10 fx X (sy_OTop_o ht) 0 (by decide) wm_18 (fun _ h9 => h9) rfl (sy_OTop_r0 ht) dX11_person_99 ?_
            refine sy_q3 fx X (sy_OEdge_o (sy_OTop_a0 ht)) 4 (by decide) wm_445 (fun _ h9 => h9) rfl (sy_OEdge_r4 (sy_OTop_a0 ht)) dX11_person_102 ?_
            refine lv_iload_n hx hb dX11_person_105 rfl (lv_at hl 1 rfl) ?_
            obtain ⟨g12, h⟩ := sy_g_e h
            refine sy_iald fx X (sy_OEdge_a4 (sy_OTop_a0 ht)) g12 dX11_person_106 ?_
            exact sy_iret fx X hr hlk h dX11_person_107
          · have h := sy_f c11 h
            rcases Decidable.em (p1 = 4) with c13 | c13
            · have h := sy_t c13 h
              refine sy_top c13.symm ?_
              refine lv_tableIn (off := 93) (tgt := 108) hx hb dX11_person_15 (by decide) (by decide) rfl (by decide) ?_
              refine lv_aload_n hx hb dX11_person_108 rfl (lv_at hl 0 rfl) ?_
              refine sy_q10 fx X (sy_OTop_o ht) 0 (by decide) wm_18 (fun _ h9 => h9) rfl (sy_OTop_r0 ht) dX11_person_109 ?_
              refine sy_q3 fx X (sy_OEdge_o (sy_OTop_a0 ht)) 5 (by decide) wm_446 (fun _ h9 => h9) rfl (sy_OEdge_r5 (sy_OTop_a0 ht)) dX11_person_112 ?_
              refine lv_iload_n hx hb dX11_person_115 rfl (lv_at hl 1 rfl) ?_
              obtain ⟨g14, h⟩ := sy_g_e h
              refine sy_iald fx X (sy_OEdge_a5 (sy_OTop_a0 ht)) g14 dX11_person_116 ?_
              exact sy_iret fx X hr hlk h dX11_person_117
            · have h := sy_f c13 h
              rcases Decidable.em (p1 = 5) with c15 | c15
              · have h := sy_t c15 h
                refine sy_top c15.symm ?_
                refine lv_tableIn (off := 103) (tgt := 118) hx hb dX11_person_15 (by decide) (by decide) rfl (by decide) ?_
                refine lv_aload_n hx hb dX11_person_118 rfl (lv_at hl 0 rfl) ?_
                refine sy_q10 fx X (sy_OTop_o ht) 2 (by decide) wm_23 (fun _ h9 => h9) rfl (sy_OTop_r2 ht) dX11_person_119 ?_
                refine sy_q9 fx X (sy_OSky_o (sy_OTop_a2 ht)) 1 (by decide) wm_447 (fun _ h9 => h9) rfl (sy_OSky_r1 (sy_OTop_a2 ht)) dX11_person_122 ?_
                refine lv_iload_n hx hb dX11_person_125 rfl (lv_at hl 1 rfl) ?_
                obtain ⟨g16, h⟩ := sy_g_e h
                refine sy_iald fx X (sy_OSky_a1 (sy_OTop_a2 ht)) g16 dX11_person_126 ?_
                exact sy_iret fx X hr hlk h dX11_person_127
              · have h := sy_f c15 h
                rcases Decidable.em (p1 = 6) with c17 | c17
                · have h := sy_t c17 h
                  refine sy_top c17.symm ?_
                  refine lv_tableIn (off := 113) (tgt := 128) hx hb dX11_person_15 (by decide) (by decide) rfl (by decide) ?_
                  refine lv_aload_n hx hb dX11_person_128 rfl (lv_at hl 0 rfl) ?_
                  refine sy_q10 fx X (sy_OTop_o ht) 2 (by decide) wm_23 (fun _ h9 => h9) rfl (sy_OTop_r2 ht) dX11_person_129 ?_
                  refine sy_q9 fx X (sy_OSky_o (sy_OTop_a2 ht)) 2 (by decide) wm_448 (fun _ h9 => h9) rfl (sy_OSky_r2 (sy_OTop_a2 ht)) dX11_person_132 ?_
                  refine lv_iload_n hx hb dX11_person_135 rfl (lv_at hl 1 rfl) ?_
                  obtain ⟨g18, h⟩ := sy_g_e h
                  refine sy_iald fx X (sy_OSky_a2 (sy_OTop_a2 ht)) g18 dX11_person_136 ?_
                  exact sy_iret fx X hr hlk h dX11_person_137
                · have h := sy_f c17 h
                  rcases Decidable.em (p1 = 7) with c19 | c19
                  · have h := sy_t c19 h
                    refine sy_top c19.symm ?_
                    refine lv_tableIn (off := 123) (tgt := 138) hx hb dX11_person_15 (by decide) (by decide) rfl (by decide) ?_
                    refine lv_aload_n hx hb dX11_person_138 rfl (lv_at hl 0 rfl) ?_
                    refine sy_q10 fx X (sy_OTop_o ht) 2 (by decide) wm_23 (fun _ h9 => h9) rfl (sy_OTop_r2 ht) dX11_person_139 ?_
                    refine sy_q9 fx X (sy_OSky_o (sy_OTop_a2 ht)) 4 (by decide) wm_449 (fun _ h9 => h9) rfl (sy_OSky_r4 (sy_OTop_a2 ht)) dX11_person_142 ?_
                    refine lv_iload_n hx hb dX11_person_145 rfl (lv_at hl 1 rfl) ?_
                    obtain ⟨g20, h⟩ := sy_g_e h
                    refine sy_iald fx X (sy_OSky_a4 (sy_OTop_a2 ht)) g20 dX11_person_146 ?_
                    exact sy_iret fx X hr hlk h dX11_person_147
                  · have h := sy_f c19 h
                    rcases Decidable.em (p1 = 8) with c21 | c21
                    · have h := sy_t c21 h
                      refine sy_top c21.symm ?_
                      refine lv_tableIn (off := 133) (tgt := 148) hx hb dX11_person_15 (by decide) (by decide) rfl (by decide) ?_
                      refine lv_aload_n hx hb dX11_person_148 rfl (lv_at hl 0 rfl) ?_
                      refine sy_q10 fx X (sy_OTop_o ht) 2 (by decide) wm_23 (fun _ h9 => h9) rfl (sy_OTop_r2 ht) dX11_person_149 ?_
                      refine lv_iload_n hx hb dX11_person_152 rfl (lv_at hl 1 rfl) ?_
                      obtain ⟨r23, S22, hc24, h⟩ := sy_c_e h
                      refine sy_vi (rest := []) fx hA X hl.1 (sy_OSky_o (sy_OTop_a2 ht)) (sy_en9 (sy_OSky_o (sy_OTop_a2 ht)).2) rfl (c_Sky_forceOf l (sy_OTop_a2 ht) hc24) cv_Sky_forceOf wm_452 ⟨Nat.le_of_ble_eq_true rfl, Nat.le_of_ble_eq_true rfl, Nat.le_refl _, Nat.le_refl _⟩ rfl rfl (Nat.le_of_ble_eq_true rfl) dX11_person_153 (fun H locs X => ?_)
                      exact sy_iret fx X hr hlk h dX11_person_156
                    · have h := sy_f c21 h
                      rcases Decidable.em (p1 = 9) with c25 | c25
                      · have h := sy_t c25 h
                        refine sy_top c25.symm ?_
                        refine lv_tableIn (off := 142) (tgt := 157) hx hb dX11_person_15 (by decide) (by decide) rfl (by decide) ?_
                        refine lv_aload_n hx hb dX11_person_157 rfl (lv_at hl 0 rfl) ?_
                        refine sy_q10 fx X (sy_OTop_o ht) 2 (by decide) wm_23 (fun _ h9 => h9) rfl (sy_OTop_r2 ht) dX11_person_158 ?_
                        refine sy_q9 fx X (sy_OSky_o (sy_OTop_a2 ht)) 3 (by decide) wm_450 (fun _ h9 => h9) rfl (sy_OSky_r3 (sy_OTop_a2 ht)) dX11_person_161 ?_
                        refine lv_iload_n hx hb dX11_person_164 rfl (lv_at hl 1 rfl) ?_
                        obtain ⟨g26, h⟩ := sy_g_e h
                        refine sy_iald fx X (sy_OSky_a3 (sy_OTop_a2 ht)) g26 dX11_person_165 ?_
                        exact sy_iret fx X hr hlk h dX11_person_166
                      · have h := sy_f c25 h
                        refine lv_tableOut (tgt := 167) hx hb dX11_person_15 (by have ec5 := sy_ne_toInt c5 (v := 0) (n := 0) (by decide); have ec7 := sy_ne_toInt c7 (v := 1) (n := 1) (by decide); have ec9 := sy_ne_toInt c9 (v := 2) (n := 2) (by decide); have ec11 := sy_ne_toInt c11 (v := 3) (n := 3) (by decide); have ec13 := sy_ne_toInt c13 (v := 4) (n := 4) (by decide); have ec15 := sy_ne_toInt c15 (v := 5) (n := 5) (by decide); have ec17 := sy_ne_toInt c17 (v := 6) (n := 6) (by decide); have ec19 := sy_ne_toInt c19 (v := 7) (n := 7) (by decide); have ec21 := sy_ne_toInt c21 (v := 8) (n := 8) (by decide); have ec25 := sy_ne_toInt c25 (v := 9) (n := 9) (by decide); omega) (by decide) ?_
                        refine lv_ldc (v := (-1000000002)) hx hb hown (hts _ wm_196) dX11_person_167 ?_
                        exact sy_iret fx X hr hlk h dX11_person_169
  · have h := sy_t c4 h
    refine lv_ldc (v := (-1000000001)) hx hb hown (hts _ wm_441) dX11_person_11 ?_
    exact sy_iret fx X hr hlk h dX11_person_13
def m_Top_pillar (p0 : Int32) (p1 : Int32) (S : sy_St) : sy_R := if p0 < 1 then (some ((-1000000002), S)) else (if 30 < p0 then (some ((-1000000002), S)) else (if p1 < 1 then (some ((-1000000002), S)) else (if p1 ≤ 40 then (sy_c (m_Edge_isWhole 1 S) fun r6 S5 => if r6 = 0 then (some ((-1000000003), S5)) else (sy_c (m_Top_harmBehind p1 0 S5) fun r10 S9 => sy_c (m_Top_harmBehind p1 p0 S9) fun r13 S12 => some (r10 - r13, S12))) else (some ((-1000000002), S)))))
theorem cv_Top_pillar : sy_cV RX11 yX11_pillar cX11_pillar 3 (some .int) 2 := ⟨wm_956, wm_957, wm_2, wm_958, by decide +kernel⟩
set_option maxRecDepth 100000 in
set_option maxHeartbeats 40000000 in
theorem c_Top_pillar (l : Launch) {E : sy_ET} (ht : sy_OTop E) {p0 : Int32} {p1 : Int32} {S S' : sy_St} {r : Int32} (h : m_Top_pillar p0 p1 S = some (r, S')) : sy_MI l yX11_pillar cX11_pillar 3 (some .int) 5 125 [.ref (sy_ad E 0), .int p0, .int p1] E S r S' := by
  refine sy_MI_of RX11 pn_11 rfl (Nat.le_of_ble_eq_true rfl) (fun p e s m args below meth c A ls fx hr hlk hA X hl => ?_)
  have hx := fx.1
  have hb := fx.2.1
  have hown := fx.2.2.2.1
  have hts := fx.2.2.2.2
  have hl : lv_has ls 3 [(0, .ref (sy_ad E 0)), (1, .int p0), (2, .int p1)] := hl
  unfold m_Top_pillar at h
  refine lv_iload_n hx hb dX11_pillar_0 rfl (lv_at hl 1 rfl) ?_
  refine lv_iconst (v := 1) hx hb dX11_pillar_1 (by decide) ?_
  refine lv_icmp_lt (tgt := 22) hx hb dX11_pillar_2 (by decide) (fun c1 => ?_) (fun c1 => ?_)
  · have h := sy_t c1 h
    refine lv_ldc (v := (-1000000002)) hx hb hown (hts _ wm_196) dX11_pillar_22 ?_
    exact sy_iret fx X hr hlk h dX11_pillar_24
  · have h := sy_f c1 h
    refine lv_iload_n hx hb dX11_pillar_5 rfl (lv_at hl 1 rfl) ?_
    refine lv_bipush (v := 30) hx hb dX11_pillar_6 (by decide) ?_
    refine lv_icmp_gt (tgt := 22) hx hb dX11_pillar_8 (by decide) (fun c2 => ?_) (fun c2 => ?_)
    · have h := sy_t c2 h
      refine lv_ldc (v := (-1000000002)) hx hb hown (hts _ wm_196) dX11_pillar_22 ?_
      exact sy_iret fx X hr hlk h dX11_pillar_24
    · have h := sy_f c2 h
      refine lv_iload_n hx hb dX11_pillar_11 rfl (lv_at hl 2 rfl) ?_
      refine lv_iconst (v := 1) hx hb dX11_pillar_12 (by decide) ?_
      refine lv_icmp_lt (tgt := 22) hx hb dX11_pillar_13 (by decide) (fun c3 => ?_) (fun c3 => ?_)
      · have h := sy_t c3 h
        refine lv_ldc (v := (-1000000002)) hx hb hown (hts _ wm_196) dX11_pillar_22 ?_
        exact sy_iret fx X hr hlk h dX11_pillar_24
      · have h := sy_f c3 h
        refine lv_iload_n hx hb dX11_pillar_16 rfl (lv_at hl 2 rfl) ?_
        refine lv_bipush (v := 40) hx hb dX11_pillar_17 (by decide) ?_
        refine lv_icmp_le (tgt := 25) hx hb dX11_pillar_19 (by decide) (fun c4 => ?_) (fun c4 => ?_)
        · have h := sy_t c4 h
          refine lv_aload_n hx hb dX11_pillar_25 rfl (lv_at hl 0 rfl) ?_
          refine sy_q10 fx X (sy_OTop_o ht) 0 (by decide) wm_18 (fun _ h9 => h9) rfl (sy_OTop_r0 ht) dX11_pillar_26 ?_
          obtain ⟨r6, S5, hc7, h⟩ := sy_c_e h
          refine sy_vi (rest := []) fx hA X hl.1 (sy_OEdge_o (sy_OTop_a0 ht)) (sy_en3 (sy_OEdge_o (sy_OTop_a0 ht)).2) rfl (c_Edge_isWhole l (sy_OTop_a0 ht) hc7) cv_Edge_isWhole wm_479 ⟨Nat.le_of_ble_eq_true rfl, Nat.le_of_ble_eq_true rfl, Nat.le_refl _, Nat.le_refl _⟩ rfl rfl (Nat.le_of_ble_eq_true rfl) dX11_pillar_29 (fun H locs X => ?_)
          refine lv_if_ne (tgt := 38) hx hb dX11_pillar_32 (by decide) (fun c8 => ?_) (fun c8 => ?_)
          · have h := sy_f c8 h
            refine lv_aload_n hx hb dX11_pillar_38 rfl (lv_at hl 0 rfl) ?_
            refine lv_iload_n hx hb dX11_pillar_39 rfl (lv_at hl 2 rfl) ?_
            refine lv_iconst (v := 0) hx hb dX11_pillar_40 (by decide) ?_
            obtain ⟨r10, S9, hc11, h⟩ := sy_c_e h
            refine sy_vi (rest := []) fx hA X hl.1 (sy_OTop_o ht) (sy_en10 (sy_OTop_o ht).2) rfl (c_Top_harmBehind l ht hc11) cv_Top_harmBehind wm_959 ⟨Nat.le_of_ble_eq_true rfl, Nat.le_of_ble_eq_true rfl, Nat.le_refl _, Nat.le_refl _⟩ rfl rfl (Nat.le_of_ble_eq_true rfl) dX11_pillar_41 (fun H locs X => ?_)
            refine lv_aload_n hx hb dX11_pillar_44 rfl (lv_at hl 0 rfl) ?_
            refine lv_iload_n hx hb dX11_pillar_45 rfl (lv_at hl 2 rfl) ?_
            refine lv_iload_n hx hb dX11_pillar_46 rfl (lv_at hl 1 rfl) ?_
            obtain ⟨r13, S12, hc14, h⟩ := sy_c_e h
            refine sy_vi (rest := [.int r10]) fx hA X hl.1 (sy_OTop_o ht) (sy_en10 (sy_OTop_o ht).2) rfl (c_Top_harmBehind l ht hc14) cv_Top_harmBehind wm_959 ⟨Nat.le_of_ble_eq_true rfl, Nat.le_of_ble_eq_true rfl, Nat.le_refl _, Nat.le_refl _⟩ rfl rfl (Nat.le_of_ble_eq_true rfl) dX11_pillar_47 (fun H locs X => ?_)
            refine lv_isub hx hb dX11_pillar_50 ?_
            exact sy_iret fx X hr hlk h dX11_pillar_51
          · have h := sy_t c8 h
            refine lv_ldc (v := (-1000000003)) hx hb hown (hts _ wm_478) dX11_pillar_35 ?_
            exact sy_iret fx X hr hlk h dX11_pillar_37
        · have h := sy_f c4 h
          refine lv_ldc (v := (-1000000002)) hx hb hown (hts _ wm_196) dX11_pillar_22 ?_
          exact sy_iret fx X hr hlk h dX11_pillar_24
def m_Top_see (p0 : Int32) (S : sy_St) : sy_R := if p0 < 0 then (some ((-1000000002), S)) else (if p0 ≤ 99 then (if (S 374 7) < 5 then (sy_c (m_Seen_add p0 S) fun r5 S4 => some (r5, S4)) else (some ((-1000000004), S))) else (some ((-1000000002), S)))
theorem cv_Top_see : sy_cV RX11 yX11_see cX11_see 2 (some .int) 1 := ⟨wm_969, wm_970, wm_2, wm_971, by decide +kernel⟩
set_option maxRecDepth 100000 in
set_option maxHeartbeats 40000000 in
theorem c_Top_see (l : Launch) {E : sy_ET} (ht : sy_OTop E) {p0 : Int32} {S S' : sy_St} {r : Int32} (h : m_Top_see p0 S = some (r, S')) : sy_MI l yX11_see cX11_see 2 (some .int) 1 21 [.ref (sy_ad E 0), .int p0] E S r S' := by
  refine sy_MI_of RX11 pn_11 rfl (Nat.le_of_ble_eq_true rfl) (fun p e s m args below meth c A ls fx hr hlk hA X hl => ?_)
  have hx := fx.1
  have hb := fx.2.1
  have hown := fx.2.2.2.1
  have hts := fx.2.2.2.2
  have hl : lv_has ls 2 [(0, .ref (sy_ad E 0)), (1, .int p0)] := hl
  unfold m_Top_see at h
  refine lv_iload_n hx hb dX11_see_0 rfl (lv_at hl 1 rfl) ?_
  refine lv_if_lt (tgt := 10) hx hb dX11_see_1 (by decide) (fun c1 => ?_) (fun c1 => ?_)
  · have h := sy_t c1 h
    refine lv_ldc (v := (-1000000002)) hx hb hown (hts _ wm_196) dX11_see_10 ?_
    exact sy_iret fx X hr hlk h dX11_see_12
  · have h := sy_f c1 h
    refine lv_iload_n hx hb dX11_see_4 rfl (lv_at hl 1 rfl) ?_
    refine lv_bipush (v := 99) hx hb dX11_see_5 (by decide) ?_
    refine lv_icmp_le (tgt := 13) hx hb dX11_see_7 (by decide) (fun c2 => ?_) (fun c2 => ?_)
    · have h := sy_t c2 h
      refine lv_aload_n hx hb dX11_see_13 rfl (lv_at hl 0 rfl) ?_
      refine sy_q10 fx X (sy_OTop_o ht) 9 (by decide) wm_41 (fun _ h9 => h9) rfl (sy_OTop_r9 ht) dX11_see_14 ?_
      refine sy_g7 fx X (sy_OSeen_o (sy_OTop_a9 ht)) 7 (by decide) wm_395 (fun _ h9 => h9) rfl dX11_see_17 ?_
      refine lv_iconst (v := 5) hx hb dX11_see_20 (by decide) ?_
      refine lv_icmp_lt (tgt := 27) hx hb dX11_see_21 (by decide) (fun c3 => ?_) (fun c3 => ?_)
      · have h := sy_t c3 h
        refine lv_aload_n hx hb dX11_see_27 rfl (lv_at hl 0 rfl) ?_
        refine sy_q10 fx X (sy_OTop_o ht) 9 (by decide) wm_41 (fun _ h9 => h9) rfl (sy_OTop_r9 ht) dX11_see_28 ?_
        refine lv_iload_n hx hb dX11_see_31 rfl (lv_at hl 1 rfl) ?_
        obtain ⟨r5, S4, hc6, h⟩ := sy_c_e h
        refine sy_vi (rest := []) fx hA X hl.1 (sy_OSeen_o (sy_OTop_a9 ht)) (sy_en7 (sy_OSeen_o (sy_OTop_a9 ht)).2) rfl (c_Seen_add l (sy_OTop_a9 ht) hc6) cv_Seen_add wm_972 ⟨Nat.le_of_ble_eq_true rfl, Nat.le_of_ble_eq_true rfl, Nat.le_refl _, Nat.le_refl _⟩ rfl rfl (Nat.le_of_ble_eq_true rfl) dX11_see_32 (fun H locs X => ?_)
        exact sy_iret fx X hr hlk h dX11_see_35
      · have h := sy_f c3 h
        refine lv_ldc (v := (-1000000004)) hx hb hown (hts _ wm_198) dX11_see_24 ?_
        exact sy_iret fx X hr hlk h dX11_see_26
    · have h := sy_f c2 h
      refine lv_ldc (v := (-1000000002)) hx hb hown (hts _ wm_196) dX11_see_10 ?_
      exact sy_iret fx X hr hlk h dX11_see_12
def m_Top_seed (p0 : Int32) (S : sy_St) : sy_R := if 0 ≤ p0 then (sy_b (S 0 15 : Int32) fun x2 => sy_b (sy_up S 0 15 p0) fun S3 => some (x2, S3)) else (some ((-1000000002), S))
theorem cv_Top_seed : sy_cV RX11 yX11_seed cX11_seed 3 (some .int) 1 := ⟨wm_1050, wm_1051, wm_2, wm_1052, by decide +kernel⟩
set_option maxRecDepth 100000 in
set_option maxHeartbeats 40000000 in
theorem c_Top_seed (l : Launch) {E : sy_ET} (ht : sy_OTop E) {p0 : Int32} {S S' : sy_St} {r : Int32} (h : m_Top_seed p0 S = some (r, S')) : sy_MI l yX11_seed cX11_seed 3 (some .int) 0 0 [.ref (sy_ad E 0), .int p0] E S r S' := by
  refine sy_MI_of RX11 pn_11 rfl (Nat.le_of_ble_eq_true rfl) (fun p e s m args below meth c A ls fx hr hlk hA X hl => ?_)
  have hx := fx.1
  have hb := fx.2.1
  have hown := fx.2.2.2.1
  have hts := fx.2.2.2.2
  have hl : lv_has ls 3 [(0, .ref (sy_ad E 0)), (1, .int p0)] := hl
  unfold m_Top_seed at h
  refine lv_iload_n hx hb dX11_seed_0 rfl (lv_at hl 1 rfl) ?_
  refine lv_if_ge (tgt := 7) hx hb dX11_seed_1 (by decide) (fun c1 => ?_) (fun c1 => ?_)
  · have h := sy_t c1 h
    refine lv_aload_n hx hb dX11_seed_7 rfl (lv_at hl 0 rfl) ?_
    refine sy_g10 fx X (sy_OTop_o ht) 15 (by decide) wm_59 (fun _ h9 => h9) rfl dX11_seed_8 ?_
    obtain ⟨x2, hx2, h⟩ := sy_b_e h
    refine sy_top hx2 ?_
    refine lv_istore_n (lv' := [(2, .int x2), (0, .ref (sy_ad E 0)), (1, .int p0)]) hx hb dX11_seed_11 rfl hl (by decide) rfl (fun ls hl => ?_)
    refine lv_aload_n hx hb dX11_seed_12 rfl (lv_at hl 1 rfl) ?_
    refine lv_iload_n hx hb dX11_seed_13 rfl (lv_at hl 2 rfl) ?_
    obtain ⟨S3, hS3, h⟩ := sy_b_e h
    refine sy_p10 fx X (sy_OTop_o ht) 15 (by decide) wm_59 (fun _ h9 => h9) rfl (ty := .int) (by decide +kernel) rfl rfl hS3 sy_s10_15 dX11_seed_14 (fun H locs X => ?_)
    refine lv_iload_n hx hb dX11_seed_17 rfl (lv_at hl 0 rfl) ?_
    exact sy_iret fx X hr hlk h dX11_seed_18
  · have h := sy_f c1 h
    refine lv_ldc (v := (-1000000002)) hx hb hown (hts _ wm_196) dX11_seed_4 ?_
    exact sy_iret fx X hr hlk h dX11_seed_6
def m_Top_shifts (p0 : Int32) (p1 : Int32) (p2 : Int32) (S : sy_St) : sy_R := sy_c (m_Top_isNoTrial p0 p1 S) fun r2 S1 => if r2 = 0 then (sy_c (m_Edge_isWhole 1 S1) fun r6 S5 => if r6 = 0 then (some ((-1000000003), S5)) else (sy_c (m_Shift_find 45 p0 p1 S5) fun r10 S9 => if p2 = (-1) then (sy_c (m_Shift_fewest S9) fun r17 S16 => some (r17, S16)) else (sy_c (m_Shift_holderAt p2 S9) fun r14 S13 => some (r14, S13)))) else (some ((-1000000002), S1))
theorem cv_Top_shifts : sy_cV RX11 yX11_shifts cX11_shifts 4 (some .int) 3 := ⟨wm_683, wm_684, wm_2, wm_685, by decide +kernel⟩
set_option maxRecDepth 100000 in
set_option maxHeartbeats 40000000 in
theorem c_Top_shifts (l : Launch) {E : sy_ET} (ht : sy_OTop E) {p0 : Int32} {p1 : Int32} {p2 : Int32} {S S' : sy_St} {r : Int32} (h : m_Top_shifts p0 p1 p2 S = some (r, S')) : sy_MI l yX11_shifts cX11_shifts 4 (some .int) 15 358 [.ref (sy_ad E 0), .int p0, .int p1, .int p2] E S r S' := by
  refine sy_MI_of RX11 pn_11 rfl (Nat.le_of_ble_eq_true rfl) (fun p e s m args below meth c A ls fx hr hlk hA X hl => ?_)
  have hx := fx.1
  have hb := fx.2.1
  have hown := fx.2.2.2.1
  have hts := fx.2.2.2.2
  have hl : lv_has ls 4 [(0, .ref (sy_ad E 0)), (1, .int p0), (2, .int p1), (3, .int p2)] := hl
  unfold m_Top_shifts at h
  refine lv_iload_n hx hb dX11_shifts_0 rfl (lv_at hl 1 rfl) ?_
  refine lv_iload_n hx hb dX11_shifts_1 rfl (lv_at hl 2 rfl) ?_
  obtain ⟨r2, S1, hc3, h⟩ := sy_c_e h
  refine sy_si (rest := []) fx hA X hl.1 (c_Top_isNoTrial l hc3) cv_Top_isNoTrial wm_686 ⟨Nat.le_of_ble_eq_true rfl, Nat.le_of_ble_eq_true rfl, Nat.le_refl _, Nat.le_refl _⟩ rfl rfl (Nat.le_of_ble_eq_true rfl) dX11_shifts_2 (fun H locs X => ?_)
  refine lv_if_eq (tgt := 11) hx hb dX11_shifts_5 (by decide) (fun c4 => ?_) (fun c4 => ?_)
  · have h := sy_t c4 h
    refine lv_aload_n hx hb dX11_shifts_11 rfl (lv_at hl 0 rfl) ?_
    refine sy_q10 fx X (sy_OTop_o ht) 0 (by decide) wm_18 (fun _ h9 => h9) rfl (sy_OTop_r0 ht) dX11_shifts_12 ?_
    obtain ⟨r6, S5, hc7, h⟩ := sy_c_e h
    refine sy_vi (rest := []) fx hA X hl.1 (sy_OEdge_o (sy_OTop_a0 ht)) (sy_en3 (sy_OEdge_o (sy_OTop_a0 ht)).2) rfl (c_Edge_isWhole l (sy_OTop_a0 ht) hc7) cv_Edge_isWhole wm_479 ⟨Nat.le_of_ble_eq_true rfl, Nat.le_of_ble_eq_true rfl, Nat.le_refl _, Nat.le_refl _⟩ rfl rfl (Nat.le_of_ble_eq_true rfl) dX11_shifts_15 (fun H locs X => ?_)
    refine lv_if_ne (tgt := 24) hx hb dX11_shifts_18 (by decide) (fun c8 => ?_) (fun c8 => ?_)
    · have h := sy_f c8 h
      refine lv_aload_n hx hb dX11_shifts_24 rfl (lv_at hl 0 rfl) ?_
      refine sy_q10 fx X (sy_OTop_o ht) 8 (by decide) wm_37 (fun _ h9 => h9) rfl (sy_OTop_r8 ht) dX11_shifts_25 ?_
      refine lv_aload_n hx hb dX11_shifts_28 rfl (lv_at hl 0 rfl) ?_
      refine sy_q10 fx X (sy_OTop_o ht) 2 (by decide) wm_23 (fun _ h9 => h9) rfl (sy_OTop_r2 ht) dX11_shifts_29 ?_
      refine lv_iload_n hx hb dX11_shifts_32 rfl (lv_at hl 1 rfl) ?_
      refine lv_iload_n hx hb dX11_shifts_33 rfl (lv_at hl 2 rfl) ?_
      obtain ⟨r10, S9, hc11, h⟩ := sy_c_e h
      refine sy_vv (rest := []) fx hA X hl.1 (sy_OShift_o (sy_OTop_a8 ht)) (sy_en8 (sy_OShift_o (sy_OTop_a8 ht)).2) rfl (c_Shift_find l (sy_OTop_a8 ht) (sy_OTop_a2 ht) hc11) cv_Shift_find wm_689 ⟨Nat.le_of_ble_eq_true rfl, Nat.le_of_ble_eq_true rfl, Nat.le_refl _, Nat.le_refl _⟩ rfl rfl (Nat.le_of_ble_eq_true rfl) dX11_shifts_34 (fun H locs X => ?_)
      refine lv_iload_n hx hb dX11_shifts_37 rfl (lv_at hl 3 rfl) ?_
      refine lv_iconst (v := (-1)) hx hb dX11_shifts_38 (by decide) ?_
      refine lv_icmp_ne (tgt := 52) hx hb dX11_shifts_39 (by decide) (fun c12 => ?_) (fun c12 => ?_)
      · have h := sy_f c12 h
        refine lv_aload_n hx hb dX11_shifts_52 rfl (lv_at hl 0 rfl) ?_
        refine sy_q10 fx X (sy_OTop_o ht) 8 (by decide) wm_37 (fun _ h9 => h9) rfl (sy_OTop_r8 ht) dX11_shifts_53 ?_
        refine lv_iload_n hx hb dX11_shifts_56 rfl (lv_at hl 3 rfl) ?_
        obtain ⟨r14, S13, hc15, h⟩ := sy_c_e h
        refine sy_vi (rest := []) fx hA X hl.1 (sy_OShift_o (sy_OTop_a8 ht)) (sy_en8 (sy_OShift_o (sy_OTop_a8 ht)).2) rfl (c_Shift_holderAt l (sy_OTop_a8 ht) hc15) cv_Shift_holderAt wm_757 ⟨Nat.le_of_ble_eq_true rfl, Nat.le_of_ble_eq_true rfl, Nat.le_refl _, Nat.le_refl _⟩ rfl rfl (Nat.le_of_ble_eq_true rfl) dX11_shifts_57 (fun H locs X => ?_)
        exact sy_iret fx X hr hlk h dX11_shifts_60
      · have h := sy_t c12 h
        refine lv_aload_n hx hb dX11_shifts_42 rfl (lv_at hl 0 rfl) ?_
        refine sy_q10 fx X (sy_OTop_o ht) 8 (by decide) wm_37 (fun _ h9 => h9) rfl (sy_OTop_r8 ht) dX11_shifts_43 ?_
        obtain ⟨r17, S16, hc18, h⟩ := sy_c_e h
        refine sy_vi (rest := []) fx hA X hl.1 (sy_OShift_o (sy_OTop_a8 ht)) (sy_en8 (sy_OShift_o (sy_OTop_a8 ht)).2) rfl (c_Shift_fewest l (sy_OTop_a8 ht) hc18) cv_Shift_fewest wm_749 ⟨Nat.le_of_ble_eq_true rfl, Nat.le_of_ble_eq_true rfl, Nat.le_refl _, Nat.le_refl _⟩ rfl rfl (Nat.le_of_ble_eq_true rfl) dX11_shifts_46 (fun H locs X => ?_)
        refine lv_goto (tgt := 60) hx hb dX11_shifts_49 (by decide) ?_
        exact sy_iret fx X hr hlk h dX11_shifts_60
    · have h := sy_t c8 h
      refine lv_ldc (v := (-1000000003)) hx hb hown (hts _ wm_478) dX11_shifts_21 ?_
      exact sy_iret fx X hr hlk h dX11_shifts_23
  · have h := sy_f c4 h
    refine lv_ldc (v := (-1000000002)) hx hb hown (hts _ wm_196) dX11_shifts_8 ?_
    exact sy_iret fx X hr hlk h dX11_shifts_10
def m_Top_sinks (p0 : Int32) (p1 : Int32) (S : sy_St) : sy_R := sy_c (m_Top_isNoTrial p0 p1 S) fun r2 S1 => if r2 = 0 then (sy_c (m_Edge_isWhole 1 S1) fun r6 S5 => if r6 = 0 then (some ((-1000000003), S5)) else (sy_c (m_Shift_find 45 p0 p1 S5) fun r10 S9 => sy_c (m_Shift_firstSunk S9) fun r13 S12 => some (r13, S12))) else (some ((-1000000002), S1))
theorem cv_Top_sinks : sy_cV RX11 yX11_sinks cX11_sinks 3 (some .int) 2 := ⟨wm_783, wm_784, wm_2, wm_785, by decide +kernel⟩
set_option maxRecDepth 100000 in
set_option maxHeartbeats 40000000 in
theorem c_Top_sinks (l : Launch) {E : sy_ET} (ht : sy_OTop E) {p0 : Int32} {p1 : Int32} {S S' : sy_St} {r : Int32} (h : m_Top_sinks p0 p1 S = some (r, S')) : sy_MI l yX11_sinks cX11_sinks 3 (some .int) 15 358 [.ref (sy_ad E 0), .int p0, .int p1] E S r S' := by
  refine sy_MI_of RX11 pn_11 rfl (Nat.le_of_ble_eq_true rfl) (fun p e s m args below meth c A ls fx hr hlk hA X hl => ?_)
  have hx := fx.1
  have hb := fx.2.1
  have hown := fx.2.2.2.1
  have hts := fx.2.2.2.2
  have hl : lv_has ls 3 [(0, .ref (sy_ad E 0)), (1, .int p0), (2, .int p1)] := hl
  unfold m_Top_sinks at h
  refine lv_iload_n hx hb dX11_sinks_0 rfl (lv_at hl 1 rfl) ?_
  refine lv_iload_n hx hb dX11_sinks_1 rfl (lv_at hl 2 rfl) ?_
  obtain ⟨r2, S1, hc3, h⟩ := sy_c_e h
  refine sy_si (rest := []) fx hA X hl.1 (c_Top_isNoTrial l hc3) cv_Top_isNoTrial wm_686 ⟨Nat.le_of_ble_eq_true rfl, Nat.le_of_ble_eq_true rfl, Nat.le_refl _, Nat.le_refl _⟩ rfl rfl (Nat.le_of_ble_eq_true rfl) dX11_sinks_2 (fun H locs X => ?_)
  refine lv_if_eq (tgt := 11) hx hb dX11_sinks_5 (by decide) (fun c4 => ?_) (fun c4 => ?_)
  · have h := sy_t c4 h
    refine lv_aload_n hx hb dX11_sinks_11 rfl (lv_at hl 0 rfl) ?_
    refine sy_q10 fx X (sy_OTop_o ht) 0 (by decide) wm_18 (fun _ h9 => h9) rfl (sy_OTop_r0 ht) dX11_sinks_12 ?_
    obtain ⟨r6, S5, hc7, h⟩ := sy_c_e h
    refine sy_vi (rest := []) fx hA X hl.1 (sy_OEdge_o (sy_OTop_a0 ht)) (sy_en3 (sy_OEdge_o (sy_OTop_a0 ht)).2) rfl (c_Edge_isWhole l (sy_OTop_a0 ht) hc7) cv_Edge_isWhole wm_479 ⟨Nat.le_of_ble_eq_true rfl, Nat.le_of_ble_eq_true rfl, Nat.le_refl _, Nat.le_refl _⟩ rfl rfl (Nat.le_of_ble_eq_true rfl) dX11_sinks_15 (fun H locs X => ?_)
    refine lv_if_ne (tgt := 24) hx hb dX11_sinks_18 (by decide) (fun c8 => ?_) (fun c8 => ?_)
    · have h := sy_f c8 h
      refine lv_aload_n hx hb dX11_sinks_24 rfl (lv_at hl 0 rfl) ?_
      refine sy_q10 fx X (sy_OTop_o ht) 8 (by decide) wm_37 (fun _ h9 => h9) rfl (sy_OTop_r8 ht) dX11_sinks_25 ?_
      refine lv_aload_n hx hb dX11_sinks_28 rfl (lv_at hl 0 rfl) ?_
      refine sy_q10 fx X (sy_OTop_o ht) 2 (by decide) wm_23 (fun _ h9 => h9) rfl (sy_OTop_r2 ht) dX11_sinks_29 ?_
      refine lv_iload_n hx hb dX11_sinks_32 rfl (lv_at hl 1 rfl) ?_
      refine lv_iload_n hx hb dX11_sinks_33 rfl (lv_at hl 2 rfl) ?_
      obtain ⟨r10, S9, hc11, h⟩ := sy_c_e h
      refine sy_vv (rest := []) fx hA X hl.1 (sy_OShift_o (sy_OTop_a8 ht)) (sy_en8 (sy_OShift_o (sy_OTop_a8 ht)).2) rfl (c_Shift_find l (sy_OTop_a8 ht) (sy_OTop_a2 ht) hc11) cv_Shift_find wm_689 ⟨Nat.le_of_ble_eq_true rfl, Nat.le_of_ble_eq_true rfl, Nat.le_refl _, Nat.le_refl _⟩ rfl rfl (Nat.le_of_ble_eq_true rfl) dX11_sinks_34 (fun H locs X => ?_)
      refine lv_aload_n hx hb dX11_sinks_37 rfl (lv_at hl 0 rfl) ?_
      refine sy_q10 fx X (sy_OTop_o ht) 8 (by decide) wm_37 (fun _ h9 => h9) rfl (sy_OTop_r8 ht) dX11_sinks_38 ?_
      obtain ⟨r13, S12, hc14, h⟩ := sy_c_e h
      refine sy_vi (rest := []) fx hA X hl.1 (sy_OShift_o (sy_OTop_a8 ht)) (sy_en8 (sy_OShift_o (sy_OTop_a8 ht)).2) rfl (c_Shift_firstSunk l (sy_OTop_a8 ht) hc14) cv_Shift_firstSunk wm_786 ⟨Nat.le_of_ble_eq_true rfl, Nat.le_of_ble_eq_true rfl, Nat.le_refl _, Nat.le_refl _⟩ rfl rfl (Nat.le_of_ble_eq_true rfl) dX11_sinks_41 (fun H locs X => ?_)
      exact sy_iret fx X hr hlk h dX11_sinks_44
    · have h := sy_t c8 h
      refine lv_ldc (v := (-1000000003)) hx hb hown (hts _ wm_478) dX11_sinks_21 ?_
      exact sy_iret fx X hr hlk h dX11_sinks_23
  · have h := sy_f c4 h
    refine lv_ldc (v := (-1000000002)) hx hb hown (hts _ wm_196) dX11_sinks_8 ?_
    exact sy_iret fx X hr hlk h dX11_sinks_10
def m_Top_sons (p0 : Int32) (S : sy_St) : sy_R := sy_c (m_Edge_isPerson 1 p0 S) fun r2 S1 => if r2 = 0 then (some ((-1000000001), S1)) else (sy_c (m_Debts_ofLine 45 p0 S1) fun r6 S5 => some (r6, S5))
theorem cv_Top_sons : sy_cV RX11 yX11_sons cX11_sons 2 (some .int) 1 := ⟨wm_889, wm_890, wm_2, wm_891, by decide +kernel⟩
set_option maxRecDepth 100000 in
set_option maxHeartbeats 40000000 in
theorem c_Top_sons (l : Launch) {E : sy_ET} (ht : sy_OTop E) {p0 : Int32} {S S' : sy_St} {r : Int32} (h : m_Top_sons p0 S = some (r, S')) : sy_MI l yX11_sons cX11_sons 2 (some .int) 3 69 [.ref (sy_ad E 0), .int p0] E S r S' := by
  refine sy_MI_of RX11 pn_11 rfl (Nat.le_of_ble_eq_true rfl) (fun p e s m args below meth c A ls fx hr hlk hA X hl => ?_)
  have hx := fx.1
  have hb := fx.2.1
  have hown := fx.2.2.2.1
  have hts := fx.2.2.2.2
  have hl : lv_has ls 2 [(0, .ref (sy_ad E 0)), (1, .int p0)] := hl
  unfold m_Top_sons at h
  refine lv_aload_n hx hb dX11_sons_0 rfl (lv_at hl 0 rfl) ?_
  refine sy_q10 fx X (sy_OTop_o ht) 0 (by decide) wm_18 (fun _ h9 => h9) rfl (sy_OTop_r0 ht) dX11_sons_1 ?_
  refine lv_iload_n hx hb dX11_sons_4 rfl (lv_at hl 1 rfl) ?_
  obtain ⟨r2, S1, hc3, h⟩ := sy_c_e h
  refine sy_vi (rest := []) fx hA X hl.1 (sy_OEdge_o (sy_OTop_a0 ht)) (sy_en3 (sy_OEdge_o (sy_OTop_a0 ht)).2) rfl (c_Edge_isPerson l (sy_OTop_a0 ht) hc3) cv_Edge_isPerson wm_451 ⟨Nat.le_of_ble_eq_true rfl, Nat.le_of_ble_eq_true rfl, Nat.le_refl _, Nat.le_refl _⟩ rfl rfl (Nat.le_of_ble_eq_true rfl) dX11_sons_5 (fun H locs X => ?_)
  refine lv_if_eq (tgt := 26) hx hb dX11_sons_8 (by decide) (fun c4 => ?_) (fun c4 => ?_)
  · have h := sy_t c4 h
    refine lv_ldc (v := (-1000000001)) hx hb hown (hts _ wm_441) dX11_sons_26 ?_
    exact sy_iret fx X hr hlk h dX11_sons_28
  · have h := sy_f c4 h
    refine lv_aload_n hx hb dX11_sons_11 rfl (lv_at hl 0 rfl) ?_
    refine sy_q10 fx X (sy_OTop_o ht) 12 (by decide) wm_53 (fun _ h9 => h9) rfl (sy_OTop_r12 ht) dX11_sons_12 ?_
    refine lv_aload_n hx hb dX11_sons_15 rfl (lv_at hl 0 rfl) ?_
    refine sy_q10 fx X (sy_OTop_o ht) 2 (by decide) wm_23 (fun _ h9 => h9) rfl (sy_OTop_r2 ht) dX11_sons_16 ?_
    refine lv_iload_n hx hb dX11_sons_19 rfl (lv_at hl 1 rfl) ?_
    obtain ⟨r6, S5, hc7, h⟩ := sy_c_e h
    refine sy_vi (rest := []) fx hA X hl.1 (sy_ODebts_o (sy_OTop_a12 ht)) (sy_en2 (sy_ODebts_o (sy_OTop_a12 ht)).2) rfl (c_Debts_ofLine l (sy_OTop_a12 ht) (sy_OTop_a2 ht) hc7) cv_Debts_ofLine wm_892 ⟨Nat.le_of_ble_eq_true rfl, Nat.le_of_ble_eq_true rfl, Nat.le_refl _, Nat.le_refl _⟩ rfl rfl (Nat.le_of_ble_eq_true rfl) dX11_sons_20 (fun H locs X => ?_)
    refine lv_goto (tgt := 28) hx hb dX11_sons_23 (by decide) ?_
    exact sy_iret fx X hr hlk h dX11_sons_28
def m_Top_sure (S : sy_St) : sy_R := sy_c (m_Edge_isWhole 1 S) fun r2 S1 => if r2 = 0 then (some ((-1000000003), S1)) else (sy_c (m_Seen_find 45 S1) fun r6 S5 => some (S5 374 9, S5))
theorem cv_Top_sure : sy_cV RX11 yX11_sure cX11_sure 1 (some .int) 0 := ⟨wm_1007, wm_1008, wm_2, wm_1009, by decide +kernel⟩
set_option maxRecDepth 100000 in
set_option maxHeartbeats 40000000 in
theorem c_Top_sure (l : Launch) {E : sy_ET} (ht : sy_OTop E) {S S' : sy_St} {r : Int32} (h : m_Top_sure S = some (r, S')) : sy_MI l yX11_sure cX11_sure 1 (some .int) 15 356 [.ref (sy_ad E 0)] E S r S' := by
  refine sy_MI_of RX11 pn_11 rfl (Nat.le_of_ble_eq_true rfl) (fun p e s m args below meth c A ls fx hr hlk hA X hl => ?_)
  have hx := fx.1
  have hb := fx.2.1
  have hown := fx.2.2.2.1
  have hts := fx.2.2.2.2
  have hl : lv_has ls 1 [(0, .ref (sy_ad E 0))] := hl
  unfold m_Top_sure at h
  refine lv_aload_n hx hb dX11_sure_0 rfl (lv_at hl 0 rfl) ?_
  refine sy_q10 fx X (sy_OTop_o ht) 0 (by decide) wm_18 (fun _ h9 => h9) rfl (sy_OTop_r0 ht) dX11_sure_1 ?_
  obtain ⟨r2, S1, hc3, h⟩ := sy_c_e h
  refine sy_vi (rest := []) fx hA X hl.1 (sy_OEdge_o (sy_OTop_a0 ht)) (sy_en3 (sy_OEdge_o (sy_OTop_a0 ht)).2) rfl (c_Edge_isWhole l (sy_OTop_a0 ht) hc3) cv_Edge_isWhole wm_479 ⟨Nat.le_of_ble_eq_true rfl, Nat.le_of_ble_eq_true rfl, Nat.le_refl _, Nat.le_refl _⟩ rfl rfl (Nat.le_of_ble_eq_true rfl) dX11_sure_4 (fun H locs X => ?_)
  refine lv_if_ne (tgt := 13) hx hb dX11_sure_7 (by decide) (fun c4 => ?_) (fun c4 => ?_)
  · have h := sy_f c4 h
    refine lv_aload_n hx hb dX11_sure_13 rfl (lv_at hl 0 rfl) ?_
    refine sy_q10 fx X (sy_OTop_o ht) 9 (by decide) wm_41 (fun _ h9 => h9) rfl (sy_OTop_r9 ht) dX11_sure_14 ?_
    refine lv_aload_n hx hb dX11_sure_17 rfl (lv_at hl 0 rfl) ?_
    refine sy_q10 fx X (sy_OTop_o ht) 2 (by decide) wm_23 (fun _ h9 => h9) rfl (sy_OTop_r2 ht) dX11_sure_18 ?_
    obtain ⟨r6, S5, hc7, h⟩ := sy_c_e h
    refine sy_vv (rest := []) fx hA X hl.1 (sy_OSeen_o (sy_OTop_a9 ht)) (sy_en7 (sy_OSeen_o (sy_OTop_a9 ht)).2) rfl (c_Seen_find l (sy_OTop_a9 ht) (sy_OTop_a2 ht) hc7) cv_Seen_find wm_985 ⟨Nat.le_of_ble_eq_true rfl, Nat.le_of_ble_eq_true rfl, Nat.le_refl _, Nat.le_refl _⟩ rfl rfl (Nat.le_of_ble_eq_true rfl) dX11_sure_21 (fun H locs X => ?_)
    refine lv_aload_n hx hb dX11_sure_24 rfl (lv_at hl 0 rfl) ?_
    refine sy_q10 fx X (sy_OTop_o ht) 9 (by decide) wm_41 (fun _ h9 => h9) rfl (sy_OTop_r9 ht) dX11_sure_25 ?_
    refine sy_g7 fx X (sy_OSeen_o (sy_OTop_a9 ht)) 9 (by decide) wm_1010 (fun _ h9 => h9) rfl dX11_sure_28 ?_
    exact sy_iret fx X hr hlk h dX11_sure_31
  · have h := sy_t c4 h
    refine lv_ldc (v := (-1000000003)) hx hb hown (hts _ wm_478) dX11_sure_10 ?_
    exact sy_iret fx X hr hlk h dX11_sure_12
def m_Top_take (p0 : Int32) (S : sy_St) : sy_R := sy_c (m_Edge_isPerson 1 p0 S) fun r2 S1 => if r2 = 0 then (some ((-1000000001), S1)) else (sy_c (m_Sky_isHolding 45 p0 S1) fun r6 S5 => if r6 = 0 then (sy_c (m_Sky_isFatherHolding 45 p0 S5) fun r10 S9 => if r10 = 0 then (some ((-1000000003), S9)) else (sy_c (m_Sky_handTo 45 p0 S9) fun r14 S13 => sy_g (sy_in p0 6) <| some (S13 7 p0.toNatClampNeg, S13))) else (some ((-1000000003), S5)))
theorem cv_Top_take : sy_cV RX11 yX11_take cX11_take 2 (some .int) 1 := ⟨wm_585, wm_586, wm_2, wm_587, by decide +kernel⟩
set_option maxRecDepth 100000 in
set_option maxHeartbeats 40000000 in
theorem c_Top_take (l : Launch) {E : sy_ET} (ht : sy_OTop E) {p0 : Int32} {S S' : sy_St} {r : Int32} (h : m_Top_take p0 S = some (r, S')) : sy_MI l yX11_take cX11_take 2 (some .int) 3 64 [.ref (sy_ad E 0), .int p0] E S r S' := by
  refine sy_MI_of RX11 pn_11 rfl (Nat.le_of_ble_eq_true rfl) (fun p e s m args below meth c A ls fx hr hlk hA X hl => ?_)
  have hx := fx.1
  have hb := fx.2.1
  have hown := fx.2.2.2.1
  have hts := fx.2.2.2.2
  have hl : lv_has ls 2 [(0, .ref (sy_ad E 0)), (1, .int p0)] := hl
  unfold m_Top_take at h
  refine lv_aload_n hx hb dX11_take_0 rfl (lv_at hl 0 rfl) ?_
  refine sy_q10 fx X (sy_OTop_o ht) 0 (by decide) wm_18 (fun _ h9 => h9) rfl (sy_OTop_r0 ht) dX11_take_1 ?_
  refine lv_iload_n hx hb dX11_take_4 rfl (lv_at hl 1 rfl) ?_
  obtain ⟨r2, S1, hc3, h⟩ := sy_c_e h
  refine sy_vi (rest := []) fx hA X hl.1 (sy_OEdge_o (sy_OTop_a0 ht)) (sy_en3 (sy_OEdge_o (sy_OTop_a0 ht)).2) rfl (c_Edge_isPerson l (sy_OTop_a0 ht) hc3) cv_Edge_isPerson wm_451 ⟨Nat.le_of_ble_eq_true rfl, Nat.le_of_ble_eq_true rfl, Nat.le_refl _, Nat.le_refl _⟩ rfl rfl (Nat.le_of_ble_eq_true rfl) dX11_take_5 (fun H locs X => ?_)
  refine lv_if_ne (tgt := 14) hx hb dX11_take_8 (by decide) (fun c4 => ?_) (fun c4 => ?_)
  · have h := sy_f c4 h
    refine lv_aload_n hx hb dX11_take_14 rfl (lv_at hl 0 rfl) ?_
    refine sy_q10 fx X (sy_OTop_o ht) 2 (by decide) wm_23 (fun _ h9 => h9) rfl (sy_OTop_r2 ht) dX11_take_15 ?_
    refine lv_iload_n hx hb dX11_take_18 rfl (lv_at hl 1 rfl) ?_
    obtain ⟨r6, S5, hc7, h⟩ := sy_c_e h
    refine sy_vi (rest := []) fx hA X hl.1 (sy_OSky_o (sy_OTop_a2 ht)) (sy_en9 (sy_OSky_o (sy_OTop_a2 ht)).2) rfl (c_Sky_isHolding l (sy_OTop_a2 ht) hc7) cv_Sky_isHolding wm_551 ⟨Nat.le_of_ble_eq_true rfl, Nat.le_of_ble_eq_true rfl, Nat.le_refl _, Nat.le_refl _⟩ rfl rfl (Nat.le_of_ble_eq_true rfl) dX11_take_19 (fun H locs X => ?_)
    refine lv_if_ne (tgt := 36) hx hb dX11_take_22 (by decide) (fun c8 => ?_) (fun c8 => ?_)
    · have h := sy_f c8 h
      refine lv_ldc (v := (-1000000003)) hx hb hown (hts _ wm_478) dX11_take_36 ?_
      exact sy_iret fx X hr hlk h dX11_take_38
    · have h := sy_t c8 h
      refine lv_aload_n hx hb dX11_take_25 rfl (lv_at hl 0 rfl) ?_
      refine sy_q10 fx X (sy_OTop_o ht) 2 (by decide) wm_23 (fun _ h9 => h9) rfl (sy_OTop_r2 ht) dX11_take_26 ?_
      refine lv_iload_n hx hb dX11_take_29 rfl (lv_at hl 1 rfl) ?_
      obtain ⟨r10, S9, hc11, h⟩ := sy_c_e h
      refine sy_vi (rest := []) fx hA X hl.1 (sy_OSky_o (sy_OTop_a2 ht)) (sy_en9 (sy_OSky_o (sy_OTop_a2 ht)).2) rfl (c_Sky_isFatherHolding l (sy_OTop_a2 ht) hc11) cv_Sky_isFatherHolding wm_588 ⟨Nat.le_of_ble_eq_true rfl, Nat.le_of_ble_eq_true rfl, Nat.le_refl _, Nat.le_refl _⟩ rfl rfl (Nat.le_of_ble_eq_true rfl) dX11_take_30 (fun H locs X => ?_)
      refine lv_if_ne (tgt := 39) hx hb dX11_take_33 (by decide) (fun c12 => ?_) (fun c12 => ?_)
      · have h := sy_f c12 h
        refine lv_aload_n hx hb dX11_take_39 rfl (lv_at hl 0 rfl) ?_
        refine sy_q10 fx X (sy_OTop_o ht) 2 (by decide) wm_23 (fun _ h9 => h9) rfl (sy_OTop_r2 ht) dX11_take_40 ?_
        refine lv_iload_n hx hb dX11_take_43 rfl (lv_at hl 1 rfl) ?_
        obtain ⟨r14, S13, hc15, h⟩ := sy_c_e h
        refine sy_vv (rest := []) fx hA X hl.1 (sy_OSky_o (sy_OTop_a2 ht)) (sy_en9 (sy_OSky_o (sy_OTop_a2 ht)).2) rfl (c_Sky_handTo l (sy_OTop_a2 ht) hc15) cv_Sky_handTo wm_597 ⟨Nat.le_of_ble_eq_true rfl, Nat.le_of_ble_eq_true rfl, Nat.le_refl _, Nat.le_refl _⟩ rfl rfl (Nat.le_of_ble_eq_true rfl) dX11_take_44 (fun H locs X => ?_)
        refine lv_aload_n hx hb dX11_take_47 rfl (lv_at hl 0 rfl) ?_
        refine sy_q10 fx X (sy_OTop_o ht) 0 (by decide) wm_18 (fun _ h9 => h9) rfl (sy_OTop_r0 ht) dX11_take_48 ?_
        refine sy_q3 fx X (sy_OEdge_o (sy_OTop_a0 ht)) 5 (by decide) wm_446 (fun _ h9 => h9) rfl (sy_OEdge_r5 (sy_OTop_a0 ht)) dX11_take_51 ?_
        refine lv_iload_n hx hb dX11_take_54 rfl (lv_at hl 1 rfl) ?_
        obtain ⟨g16, h⟩ := sy_g_e h
        refine sy_iald fx X (sy_OEdge_a5 (sy_OTop_a0 ht)) g16 dX11_take_55 ?_
        exact sy_iret fx X hr hlk h dX11_take_56
      · have h := sy_t c12 h
        refine lv_ldc (v := (-1000000003)) hx hb hown (hts _ wm_478) dX11_take_36 ?_
        exact sy_iret fx X hr hlk h dX11_take_38
  · have h := sy_t c4 h
    refine lv_ldc (v := (-1000000001)) hx hb hown (hts _ wm_441) dX11_take_11 ?_
    exact sy_iret fx X hr hlk h dX11_take_13
def m_Top_tear (S : sy_St) : sy_R := sy_b ((S 374 7) + (S 384 3) : Int32) fun x1 => sy_c (m_Seen_clear S) fun r3 S2 => sy_c (m_Book_clear S2) fun r6 S5 => some (x1, S5)
theorem cv_Top_tear : sy_cV RX11 yX11_tear cX11_tear 2 (some .int) 0 := ⟨wm_1042, wm_1043, wm_2, wm_1044, by decide +kernel⟩
set_option maxRecDepth 100000 in
set_option maxHeartbeats 40000000 in
theorem c_Top_tear (l : Launch) {E : sy_ET} (ht : sy_OTop E) {S S' : sy_St} {r : Int32} (h : m_Top_tear S = some (r, S')) : sy_MI l yX11_tear cX11_tear 2 (some .int) 1 20 [.ref (sy_ad E 0)] E S r S' := by
  refine sy_MI_of RX11 pn_11 rfl (Nat.le_of_ble_eq_true rfl) (fun p e s m args below meth c A ls fx hr hlk hA X hl => ?_)
  have hx := fx.1
  have hb := fx.2.1
  have hown := fx.2.2.2.1
  have hts := fx.2.2.2.2
  have hl : lv_has ls 2 [(0, .ref (sy_ad E 0))] := hl
  unfold m_Top_tear at h
  refine lv_aload_n hx hb dX11_tear_0 rfl (lv_at hl 0 rfl) ?_
  refine sy_q10 fx X (sy_OTop_o ht) 9 (by decide) wm_41 (fun _ h9 => h9) rfl (sy_OTop_r9 ht) dX11_tear_1 ?_
  refine sy_g7 fx X (sy_OSeen_o (sy_OTop_a9 ht)) 7 (by decide) wm_395 (fun _ h9 => h9) rfl dX11_tear_4 ?_
  refine lv_aload_n hx hb dX11_tear_7 rfl (lv_at hl 0 rfl) ?_
  refine sy_q10 fx X (sy_OTop_o ht) 11 (by decide) wm_49 (fun _ h9 => h9) rfl (sy_OTop_r11 ht) dX11_tear_8 ?_
  refine sy_g0 fx X (sy_OBook_o (sy_OTop_a11 ht)) 3 (by decide) wm_396 (fun _ h9 => h9) rfl dX11_tear_11 ?_
  refine lv_iadd hx hb dX11_tear_14 ?_
  obtain ⟨x1, hx1, h⟩ := sy_b_e h
  refine sy_top hx1 ?_
  refine lv_istore_n (lv' := [(1, .int x1), (0, .ref (sy_ad E 0))]) hx hb dX11_tear_15 rfl hl (by decide) rfl (fun ls hl => ?_)
  refine lv_aload_n hx hb dX11_tear_16 rfl (lv_at hl 1 rfl) ?_
  refine sy_q10 fx X (sy_OTop_o ht) 9 (by decide) wm_41 (fun _ h9 => h9) rfl (sy_OTop_r9 ht) dX11_tear_17 ?_
  obtain ⟨r3, S2, hc4, h⟩ := sy_c_e h
  refine sy_vv (rest := []) fx hA X hl.1 (sy_OSeen_o (sy_OTop_a9 ht)) (sy_en7 (sy_OSeen_o (sy_OTop_a9 ht)).2) rfl (c_Seen_clear l (sy_OTop_a9 ht) hc4) cv_Seen_clear wm_314 ⟨Nat.le_of_ble_eq_true rfl, Nat.le_of_ble_eq_true rfl, Nat.le_refl _, Nat.le_refl _⟩ rfl rfl (Nat.le_of_ble_eq_true rfl) dX11_tear_20 (fun H locs X => ?_)
  refine lv_aload_n hx hb dX11_tear_23 rfl (lv_at hl 1 rfl) ?_
  refine sy_q10 fx X (sy_OTop_o ht) 11 (by decide) wm_49 (fun _ h9 => h9) rfl (sy_OTop_r11 ht) dX11_tear_24 ?_
  obtain ⟨r6, S5, hc7, h⟩ := sy_c_e h
  refine sy_vv (rest := []) fx hA X hl.1 (sy_OBook_o (sy_OTop_a11 ht)) (sy_en0 (sy_OBook_o (sy_OTop_a11 ht)).2) rfl (c_Book_clear l (sy_OTop_a11 ht) hc7) cv_Book_clear wm_319 ⟨Nat.le_of_ble_eq_true rfl, Nat.le_of_ble_eq_true rfl, Nat.le_refl _, Nat.le_refl _⟩ rfl rfl (Nat.le_of_ble_eq_true rfl) dX11_tear_27 (fun H locs X => ?_)
  refine lv_iload_n hx hb dX11_tear_30 rfl (lv_at hl 0 rfl) ?_
  exact sy_iret fx X hr hlk h dX11_tear_31
def m_Top_told (p0 : Int32) (S : sy_St) : sy_R := if p0 = 0 then (some (S 1 7, S)) else if p0 = 1 then (some (S 1 8, S)) else if p0 = 2 then (some (S 35 2, S)) else if p0 = 3 then (some (S 45 5, S)) else if p0 = 4 then (some (S 45 6, S)) else if p0 = 5 then (some (S 45 7, S)) else if p0 = 6 then (some (S 45 8, S)) else if p0 = 7 then (some (S 45 9, S)) else if p0 = 8 then (some (S 45 10, S)) else if p0 = 9 then (sy_c (m_Edge_weightAt 1 (S 45 5) S) fun r12 S11 => some (r12, S11)) else if p0 = 10 then (sy_c (m_Sky_forceHeld 45 S) fun r16 S15 => some (r16, S15)) else if p0 = 11 then (some (S 374 7, S)) else if p0 = 12 then (some (S 384 3, S)) else if p0 = 13 then (some (S 55 1, S)) else (some ((-1000000002), S))
theorem cv_Top_told : sy_cV RX11 yX11_told cX11_told 2 (some .int) 1 := ⟨wm_385, wm_386, wm_2, wm_387, by decide +kernel⟩
set_option maxRecDepth 100000 in
set_option maxHeartbeats 40000000 in
theorem c_Top_told (l : Launch) {E : sy_ET} (ht : sy_OTop E) {p0 : Int32} {S S' : sy_St} {r : Int32} (h : m_Top_told p0 S = some (r, S')) : sy_MI l yX11_told cX11_told 2 (some .int) 3 74 [.ref (sy_ad E 0), .int p0] E S r S' := by
  refine sy_MI_of RX11 pn_11 rfl (Nat.le_of_ble_eq_true rfl) (fun p e s m args below meth c A ls fx hr hlk hA X hl => ?_)
  have hx := fx.1
  have hb := fx.2.1
  have hown := fx.2.2.2.1
  have hts := fx.2.2.2.2
  have hl : lv_has ls 2 [(0, .ref (sy_ad E 0)), (1, .int p0)] := hl
  unfold m_Top_told at h
  refine lv_iload_n hx hb dX11_told_0 rfl (lv_at hl 1 rfl) ?_
  rcases Decidable.em (p0 = 0) with c1 | c1
  · have h := sy_t c1 h
    refine sy_top c1.symm ?_
    refine lv_tableIn (off := 71) (tgt := 72) hx hb dX11_told_1 (by decide) (by decide) rfl (by decide) ?_
    refine lv_aload_n hx hb dX11_told_72 rfl (lv_at hl 0 rfl) ?_
    refine sy_q10 fx X (sy_OTop_o ht) 0 (by decide) wm_18 (fun _ h9 => h9) rfl (sy_OTop_r0 ht) dX11_told_73 ?_
    refine sy_g3 fx X (sy_OEdge_o (sy_OTop_a0 ht)) 7 (by decide) wm_388 (fun _ h9 => h9) rfl dX11_told_76 ?_
    exact sy_iret fx X hr hlk h dX11_told_79
  · have h := sy_f c1 h
    rcases Decidable.em (p0 = 1) with c2 | c2
    · have h := sy_t c2 h
      refine sy_top c2.symm ?_
      refine lv_tableIn (off := 79) (tgt := 80) hx hb dX11_told_1 (by decide) (by decide) rfl (by decide) ?_
      refine lv_aload_n hx hb dX11_told_80 rfl (lv_at hl 0 rfl) ?_
      refine sy_q10 fx X (sy_OTop_o ht) 0 (by decide) wm_18 (fun _ h9 => h9) rfl (sy_OTop_r0 ht) dX11_told_81 ?_
      refine sy_g3 fx X (sy_OEdge_o (sy_OTop_a0 ht)) 8 (by decide) wm_221 (fun _ h9 => h9) rfl dX11_told_84 ?_
      exact sy_iret fx X hr hlk h dX11_told_87
    · have h := sy_f c2 h
      rcases Decidable.em (p0 = 2) with c3 | c3
      · have h := sy_t c3 h
        refine sy_top c3.symm ?_
        refine lv_tableIn (off := 87) (tgt := 88) hx hb dX11_told_1 (by decide) (by decide) rfl (by decide) ?_
        refine lv_aload_n hx hb dX11_told_88 rfl (lv_at hl 0 rfl) ?_
        refine sy_q10 fx X (sy_OTop_o ht) 1 (by decide) wm_22 (fun _ h9 => h9) rfl (sy_OTop_r1 ht) dX11_told_89 ?_
        refine sy_g6 fx X (sy_OReader_o (sy_OTop_a1 ht)) 2 (by decide) wm_197 (fun _ h9 => h9) rfl dX11_told_92 ?_
        exact sy_iret fx X hr hlk h dX11_told_95
      · have h := sy_f c3 h
        rcases Decidable.em (p0 = 3) with c4 | c4
        · have h := sy_t c4 h
          refine sy_top c4.symm ?_
          refine lv_tableIn (off := 95) (tgt := 96) hx hb dX11_told_1 (by decide) (by decide) rfl (by decide) ?_
          refine lv_aload_n hx hb dX11_told_96 rfl (lv_at hl 0 rfl) ?_
          refine sy_q10 fx X (sy_OTop_o ht) 2 (by decide) wm_23 (fun _ h9 => h9) rfl (sy_OTop_r2 ht) dX11_told_97 ?_
          refine sy_g9 fx X (sy_OSky_o (sy_OTop_a2 ht)) 5 (by decide) wm_389 (fun _ h9 => h9) rfl dX11_told_100 ?_
          exact sy_iret fx X hr hlk h dX11_told_103
        · have h := sy_f c4 h
          rcases Decidable.em (p0 = 4) with c5 | c5
          · have h := sy_t c5 h
            refine sy_top c5.symm ?_
            refine lv_tableIn (off := 103) (tgt := 104) hx hb dX11_told_1 (by decide) (by decide) rfl (by decide) ?_
            refine lv_aload_n hx hb dX11_told_104 rfl (lv_at hl 0 rfl) ?_
            refine sy_q10 fx X (sy_OTop_o ht) 2 (by decide) wm_23 (fun _ h9 => h9) rfl (sy_OTop_r2 ht) dX11_told_105 ?_
            refine sy_g9 fx X (sy_OSky_o (sy_OTop_a2 ht)) 6 (by decide) wm_390 (fun _ h9 => h9) rfl dX11_told_108 ?_
            exact sy_iret fx X hr hlk h dX11_told_111
          · have h := sy_f c5 h
            rcases Decidable.em (p0 = 5) with c6 | c6
            · have h := sy_t c6 h
              refine sy_top c6.symm ?_
              refine lv_tableIn (off := 111) (tgt := 112) hx hb dX11_told_1 (by decide) (by decide) rfl (by decide) ?_
              refine lv_aload_n hx hb dX11_told_112 rfl (lv_at hl 0 rfl) ?_
              refine sy_q10 fx X (sy_OTop_o ht) 2 (by decide) wm_23 (fun _ h9 => h9) rfl (sy_OTop_r2 ht) dX11_told_113 ?_
              refine sy_g9 fx X (sy_OSky_o (sy_OTop_a2 ht)) 7 (by decide) wm_391 (fun _ h9 => h9) rfl dX11_told_116 ?_
              exact sy_iret fx X hr hlk h dX11_told_119
            · have h := sy_f c6 h
              rcases Decidable.em (p0 = 6) with c7 | c7
              · have h := sy_t c7 h
                refine sy_top c7.symm ?_
                refine lv_tableIn (off := 119) (tgt := 120) hx hb dX11_told_1 (by decide) (by decide) rfl (by decide) ?_
                refine lv_aload_n hx hb dX11_told_120 rfl (lv_at hl 0 rfl) ?_
                refine sy_q10 fx X (sy_OTop_o ht) 2 (by decide) wm_23 (fun _ h9 => h9) rfl (sy_OTop_r2 ht) dX11_told_121 ?_
                refine sy_g9 fx X (sy_OSky_o (sy_OTop_a2 ht)) 8 (by decide) wm_392 (fun _ h9 => h9) rfl dX11_told_124 ?_
                exact sy_iret fx X hr hlk h dX11_told_127
              · have h := sy_f c7 h
                rcases Decidable.em (p0 = 7) with c8 | c8
                · have h := sy_t c8 h
                  refine sy_top c8.symm ?_
                  refine lv_tableIn (off := 127) (tgt := 128) hx hb dX11_told_1 (by decide) (by decide) rfl (by decide) ?_
                  refine lv_aload_n hx hb dX11_told_128 rfl (lv_at hl 0 rfl) ?_
                  refine sy_q10 fx X (sy_OTop_o ht) 2 (by decide) wm_23 (fun _ h9 => h9) rfl (sy_OTop_r2 ht) dX11_told_129 ?_
                  refine sy_g9 fx X (sy_OSky_o (sy_OTop_a2 ht)) 9 (by decide) wm_393 (fun _ h9 => h9) rfl dX11_told_132 ?_
                  exact sy_iret fx X hr hlk h dX11_told_135
                · have h := sy_f c8 h
                  rcases Decidable.em (p0 = 8) with c9 | c9
                  · have h := sy_t c9 h
                    refine sy_top c9.symm ?_
                    refine lv_tableIn (off := 135) (tgt := 136) hx hb dX11_told_1 (by decide) (by decide) rfl (by decide) ?_
                    refine lv_aload_n hx hb dX11_told_136 rfl (lv_at hl 0 rfl) ?_
                    refine sy_q10 fx X (sy_OTop_o ht) 2 (by decide) wm_23 (fun _ h9 => h9) rfl (sy_OTop_r2 ht) dX11_told_137 ?_
                    refine sy_g9 fx X (sy_OSky_o (sy_OTop_a2 ht)) 10 (by decide) wm_394 (fun _ h9 => h9) rfl dX11_told_140 ?_
                    exact sy_iret fx X hr hlk h dX11_told_143
                  · have h := sy_f c9 h
                    rcases Decidable.em (p0 = 9) with c10 | c10
                    · have h := sy_t c10 h
                      refine sy_top c10.symm ?_
                      refine lv_tableIn (off := 143) (tgt := 144) hx hb dX11_told_1 (by decide) (by decide) rfl (by decide) ?_
                      refine lv_aload_n hx hb dX11_told_144 rfl (lv_at hl 0 rfl) ?_
                      refine sy_q10 fx X (sy_OTop_o ht) 0 (by decide) wm_18 (fun _ h9 => h9) rfl (sy_OTop_r0 ht) dX11_told_145 ?_
                      refine lv_aload_n hx hb dX11_told_148 rfl (lv_at hl 0 rfl) ?_
                      refine sy_q10 fx X (sy_OTop_o ht) 2 (by decide) wm_23 (fun _ h9 => h9) rfl (sy_OTop_r2 ht) dX11_told_149 ?_
                      refine sy_g9 fx X (sy_OSky_o (sy_OTop_a2 ht)) 5 (by decide) wm_389 (fun _ h9 => h9) rfl dX11_told_152 ?_
                      obtain ⟨r12, S11, hc13, h⟩ := sy_c_e h
                      refine sy_vi (rest := []) fx hA X hl.1 (sy_OEdge_o (sy_OTop_a0 ht)) (sy_en3 (sy_OEdge_o (sy_OTop_a0 ht)).2) rfl (c_Edge_weightAt l (sy_OTop_a0 ht) hc13) cv_Edge_weightAt wm_398 ⟨Nat.le_of_ble_eq_true rfl, Nat.le_of_ble_eq_true rfl, Nat.le_refl _, Nat.le_refl _⟩ rfl rfl (Nat.le_of_ble_eq_true rfl) dX11_told_155 (fun H locs X => ?_)
                      exact sy_iret fx X hr hlk h dX11_told_158
                    · have h := sy_f c10 h
                      rcases Decidable.em (p0 = 10) with c14 | c14
                      · have h := sy_t c14 h
                        refine sy_top c14.symm ?_
                        refine lv_tableIn (off := 158) (tgt := 159) hx hb dX11_told_1 (by decide) (by decide) rfl (by decide) ?_
                        refine lv_aload_n hx hb dX11_told_159 rfl (lv_at hl 0 rfl) ?_
                        refine sy_q10 fx X (sy_OTop_o ht) 2 (by decide) wm_23 (fun _ h9 => h9) rfl (sy_OTop_r2 ht) dX11_told_160 ?_
                        obtain ⟨r16, S15, hc17, h⟩ := sy_c_e h
                        refine sy_vi (rest := []) fx hA X hl.1 (sy_OSky_o (sy_OTop_a2 ht)) (sy_en9 (sy_OSky_o (sy_OTop_a2 ht)).2) rfl (c_Sky_forceHeld l (sy_OTop_a2 ht) hc17) cv_Sky_forceHeld wm_402 ⟨Nat.le_of_ble_eq_true rfl, Nat.le_of_ble_eq_true rfl, Nat.le_refl _, Nat.le_refl _⟩ rfl rfl (Nat.le_of_ble_eq_true rfl) dX11_told_163 (fun H locs X => ?_)
                        exact sy_iret fx X hr hlk h dX11_told_166
                      · have h := sy_f c14 h
                        rcases Decidable.em (p0 = 11) with c18 | c18
                        · have h := sy_t c18 h
                          refine sy_top c18.symm ?_
                          refine lv_tableIn (off := 166) (tgt := 167) hx hb dX11_told_1 (by decide) (by decide) rfl (by decide) ?_
                          refine lv_aload_n hx hb dX11_told_167 rfl (lv_at hl 0 rfl) ?_
                          refine sy_q10 fx X (sy_OTop_o ht) 9 (by decide) wm_41 (fun _ h9 => h9) rfl (sy_OTop_r9 ht) dX11_told_168 ?_
                          refine sy_g7 fx X (sy_OSeen_o (sy_OTop_a9 ht)) 7 (by decide) wm_395 (fun _ h9 => h9) rfl dX11_told_171 ?_
                          exact sy_iret fx X hr hlk h dX11_told_174
                        · have h := sy_f c18 h
                          rcases Decidable.em (p0 = 12) with c19 | c19
                          · have h := sy_t c19 h
                            refine sy_top c19.symm ?_
                            refine lv_tableIn (off := 174) (tgt := 175) hx hb dX11_told_1 (by decide) (by decide) rfl (by decide) ?_
                            refine lv_aload_n hx hb dX11_told_175 rfl (lv_at hl 0 rfl) ?_
                            refine sy_q10 fx X (sy_OTop_o ht) 11 (by decide) wm_49 (fun _ h9 => h9) rfl (sy_OTop_r11 ht) dX11_told_176 ?_
                            refine sy_g0 fx X (sy_OBook_o (sy_OTop_a11 ht)) 3 (by decide) wm_396 (fun _ h9 => h9) rfl dX11_told_179 ?_
                            exact sy_iret fx X hr hlk h dX11_told_182
                          · have h := sy_f c19 h
                            rcases Decidable.em (p0 = 13) with c20 | c20
                            · have h := sy_t c20 h
                              refine sy_top c20.symm ?_
                              refine lv_tableIn (off := 182) (tgt := 183) hx hb dX11_told_1 (by decide) (by decide) rfl (by decide) ?_
                              refine lv_aload_n hx hb dX11_told_183 rfl (lv_at hl 0 rfl) ?_
                              refine sy_q10 fx X (sy_OTop_o ht) 4 (by decide) wm_28 (fun _ h9 => h9) rfl (sy_OTop_r4 ht) dX11_told_184 ?_
                              refine sy_g5 fx X (sy_OPast_o (sy_OTop_a4 ht)) 1 (by decide) wm_397 (fun _ h9 => h9) rfl dX11_told_187 ?_
                              exact sy_iret fx X hr hlk h dX11_told_190
                            · have h := sy_f c20 h
                              refine lv_tableOut (tgt := 191) hx hb dX11_told_1 (by have ec1 := sy_ne_toInt c1 (v := 0) (n := 0) (by decide); have ec2 := sy_ne_toInt c2 (v := 1) (n := 1) (by decide); have ec3 := sy_ne_toInt c3 (v := 2) (n := 2) (by decide); have ec4 := sy_ne_toInt c4 (v := 3) (n := 3) (by decide); have ec5 := sy_ne_toInt c5 (v := 4) (n := 4) (by decide); have ec6 := sy_ne_toInt c6 (v := 5) (n := 5) (by decide); have ec7 := sy_ne_toInt c7 (v := 6) (n := 6) (by decide); have ec8 := sy_ne_toInt c8 (v := 7) (n := 7) (by decide); have ec9 := sy_ne_toInt c9 (v := 8) (n := 8) (by decide); have ec10 := sy_ne_toInt c10 (v := 9) (n := 9) (by decide); have ec14 := sy_ne_toInt c14 (v := 10) (n := 10) (by decide); have ec18 := sy_ne_toInt c18 (v := 11) (n := 11) (by decide); have ec19 := sy_ne_toInt c19 (v := 12) (n := 12) (by decide); have ec20 := sy_ne_toInt c20 (v := 13) (n := 13) (by decide); omega) (by decide) ?_
                              refine lv_ldc (v := (-1000000002)) hx hb hown (hts _ wm_196) dX11_told_191 ?_
                              exact sy_iret fx X hr hlk h dX11_told_193
def m_Top_undo (p0 : Int32) (S : sy_St) : sy_R := if p0 < 1 then (some ((-1000000002), S)) else (if p0 ≤ 60 then (if p0 ≤ (S 55 1) then (sy_c (m_Past_takeBack 45 p0 S) fun r5 S4 => some (S4 45 5, S4)) else (some ((-1000000003), S))) else (some ((-1000000002), S)))
theorem cv_Top_undo : sy_cV RX11 yX11_undo cX11_undo 2 (some .int) 1 := ⟨wm_671, wm_672, wm_2, wm_673, by decide +kernel⟩
set_option maxRecDepth 100000 in
set_option maxHeartbeats 40000000 in
theorem c_Top_undo (l : Launch) {E : sy_ET} (ht : sy_OTop E) {p0 : Int32} {S S' : sy_St} {r : Int32} (h : m_Top_undo p0 S = some (r, S')) : sy_MI l yX11_undo cX11_undo 2 (some .int) 3 103 [.ref (sy_ad E 0), .int p0] E S r S' := by
  refine sy_MI_of RX11 pn_11 rfl (Nat.le_of_ble_eq_true rfl) (fun p e s m args below meth c A ls fx hr hlk hA X hl => ?_)
  have hx := fx.1
  have hb := fx.2.1
  have hown := fx.2.2.2.1
  have hts := fx.2.2.2.2
  have hl : lv_has ls 2 [(0, .ref (sy_ad E 0)), (1, .int p0)] := hl
  unfold m_Top_undo at h
  refine lv_iload_n hx hb dX11_undo_0 rfl (lv_at hl 1 rfl) ?_
  refine lv_iconst (v := 1) hx hb dX11_undo_1 (by decide) ?_
  refine lv_icmp_lt (tgt := 11) hx hb dX11_undo_2 (by decide) (fun c1 => ?_) (fun c1 => ?_)
  · have h := sy_t c1 h
    refine lv_ldc (v := (-1000000002)) hx hb hown (hts _ wm_196) dX11_undo_11 ?_
    exact sy_iret fx X hr hlk h dX11_undo_13
  · have h := sy_f c1 h
    refine lv_iload_n hx hb dX11_undo_5 rfl (lv_at hl 1 rfl) ?_
    refine lv_bipush (v := 60) hx hb dX11_undo_6 (by decide) ?_
    refine lv_icmp_le (tgt := 14) hx hb dX11_undo_8 (by decide) (fun c2 => ?_) (fun c2 => ?_)
    · have h := sy_t c2 h
      refine lv_iload_n hx hb dX11_undo_14 rfl (lv_at hl 1 rfl) ?_
      refine lv_aload_n hx hb dX11_undo_15 rfl (lv_at hl 0 rfl) ?_
      refine sy_q10 fx X (sy_OTop_o ht) 4 (by decide) wm_28 (fun _ h9 => h9) rfl (sy_OTop_r4 ht) dX11_undo_16 ?_
      refine sy_g5 fx X (sy_OPast_o (sy_OTop_a4 ht)) 1 (by decide) wm_397 (fun _ h9 => h9) rfl dX11_undo_19 ?_
      refine lv_icmp_le (tgt := 28) hx hb dX11_undo_22 (by decide) (fun c3 => ?_) (fun c3 => ?_)
      · have h := sy_t c3 h
        refine lv_aload_n hx hb dX11_undo_28 rfl (lv_at hl 0 rfl) ?_
        refine sy_q10 fx X (sy_OTop_o ht) 4 (by decide) wm_28 (fun _ h9 => h9) rfl (sy_OTop_r4 ht) dX11_undo_29 ?_
        refine lv_aload_n hx hb dX11_undo_32 rfl (lv_at hl 0 rfl) ?_
        refine sy_q10 fx X (sy_OTop_o ht) 2 (by decide) wm_23 (fun _ h9 => h9) rfl (sy_OTop_r2 ht) dX11_undo_33 ?_
        refine lv_iload_n hx hb dX11_undo_36 rfl (lv_at hl 1 rfl) ?_
        obtain ⟨r5, S4, hc6, h⟩ := sy_c_e h
        refine sy_vv (rest := []) fx hA X hl.1 (sy_OPast_o (sy_OTop_a4 ht)) (sy_en5 (sy_OPast_o (sy_OTop_a4 ht)).2) rfl (c_Past_takeBack l (sy_OTop_a4 ht) (sy_OTop_a2 ht) hc6) cv_Past_takeBack wm_674 ⟨Nat.le_of_ble_eq_true rfl, Nat.le_of_ble_eq_true rfl, Nat.le_refl _, Nat.le_refl _⟩ rfl rfl (Nat.le_of_ble_eq_true rfl) dX11_undo_37 (fun H locs X => ?_)
        refine lv_aload_n hx hb dX11_undo_40 rfl (lv_at hl 0 rfl) ?_
        refine sy_q10 fx X (sy_OTop_o ht) 2 (by decide) wm_23 (fun _ h9 => h9) rfl (sy_OTop_r2 ht) dX11_undo_41 ?_
        refine sy_g9 fx X (sy_OSky_o (sy_OTop_a2 ht)) 5 (by decide) wm_389 (fun _ h9 => h9) rfl dX11_undo_44 ?_
        exact sy_iret fx X hr hlk h dX11_undo_47
      · have h := sy_f c3 h
        refine lv_ldc (v := (-1000000003)) hx hb hown (hts _ wm_478) dX11_undo_25 ?_
        exact sy_iret fx X hr hlk h dX11_undo_27
    · have h := sy_f c2 h
      refine lv_ldc (v := (-1000000002)) hx hb hown (hts _ wm_196) dX11_undo_11 ?_
      exact sy_iret fx X hr hlk h dX11_undo_13
