def m_Model_drift_B32 (kk32 : Int32 → Int32 → Int32 → sy_St → sy_R) (y1 : Int32) (y2 : Int32) (y3 : Int32) (S : sy_St) : sy_R := if y1 ≤ y3 then (some ((S 400 ((2 : Int32).toNatClampNeg)) - y2, S)) else (sy_c (m_Model_draw (S 392 19) S) fun r12 S11 => sy_c (m_Model_isSonOfWhoHolds r12 S11) fun r15 S14 => if r15 = 0 then (sy_c (m_Model_holds 400 31 r12 S14) fun r19 S18 => if r19 = 0 then (sy_c (m_Model_draw 3 S18) fun r30 S29 => sy_c (m_Model_offers 400 31 r12 r30 S29) fun r33 S32 => sy_c (m_Model_note S32) fun r36 S35 => sy_c (m_Model_pass 400 31 0 S35) fun r39 S38 => sy_b (y3 + 1 : Int32) fun x41 => kk32 y1 y2 x41 S38) else (sy_c (m_Model_note S18) fun r23 S22 => sy_c (m_Model_pass 400 31 0 S22) fun r26 S25 => sy_b (y3 + 1 : Int32) fun x28 => kk32 y1 y2 x28 S25)) else (sy_c (m_Model_takesIt r12 S14) fun r43 S42 => sy_c (m_Model_note S42) fun r46 S45 => sy_c (m_Model_pass 400 31 0 S45) fun r49 S48 => sy_b (y3 + 1 : Int32) fun x51 => kk32 y1 y2 x51 S48))
def m_Model_drift (p0 : Int32) (S : sy_St) : sy_R := sy_c (m_Model_in p0 1 99 S) fun r2 S1 => if r2 = 0 then (some ((-1000000002), S1)) else (sy_c (m_Model_isHere S1) fun r6 S5 => if r6 = 0 then (some ((-1000000003), S5)) else (sy_b (S5 400 ((2 : Int32).toNatClampNeg) : Int32) fun x9 => sy_fix (fun _ _ _ _ => none) (m_Model_drift_B32) sy_F p0 x9 0 S5))
theorem cv_Model_drift : sy_cV RX12 yX12_drift cX12_drift 6 (some .int) 1 := ⟨wm_659, wm_660, wm_5, wm_661, by decide +kernel⟩
set_option maxRecDepth 100000 in
set_option maxHeartbeats 40000000 in
theorem c_Model_drift (l : Launch) {E : sy_ET} (ht : sy_OModel E) {p0 : Int32} {S S' : sy_St} {r : Int32} (h : m_Model_drift p0 S = some (r, S')) : sy_MI l yX12_drift cX12_drift 6 (some .int) 4 92 [.ref (sy_ad E 392), .int p0] E S r S' := by
  refine sy_MI_of RX12 pn_12 rfl (Nat.le_of_ble_eq_true rfl) (fun p e s m args below meth c A ls fx hr hlk hA X hl => ?_)
  have hx := fx.1
  have hb := fx.2.1
  have hown := fx.2.2.2.1
  have hts := fx.2.2.2.2
  have hl : lv_has ls 6 [(0, .ref (sy_ad E 392)), (1, .int p0)] := hl
  have L_32 : ∀ (n32 : Nat) (y1 y2 y3 : Int32) (S : sy_St) (H : Heap) (locs : List Loc) (ls : Array Slot), sy_Wd E A s S H locs → lv_has ls 6 [(0, .ref (sy_ad E 392)), (1, .int y1), (2, .int y2), (3, .int y3)] → sy_fix (fun _ _ _ _ => none) (m_Model_drift_B32) n32 y1 y2 y3 S = some (r, S') → W p l e (sy_rm 4 92) s m args below meth c H locs 0 0 (MQ below (sy_Qi E A r S') args s 0 0 A) (F0 m 32 ls []) := by
    intro n32
    induction n32 with
    | zero => intro y1 y2 y3 S H locs ls X hl h; have h9 : (none : sy_R) = some (r, S') := h; cases h9
    | succ n32 ih32 =>
      intro y1 y2 y3 S H locs ls X hl h
      have h : m_Model_drift_B32 (sy_fix (fun _ _ _ _ => none) (m_Model_drift_B32) n32) y1 y2 y3 S = some (r, S') := h
      unfold m_Model_drift_B32 at h
      refine lv_iload_n hx hb dX12_drift_32 rfl (lv_at hl 3 rfl) ?_
      refine lv_iload_n hx hb dX12_drift_33 rfl (lv_at hl 1 rfl) ?_
      refine lv_icmp_ge (tgt := 116) hx hb dX12_drift_34 (by decide) (fun c10 => ?_) (fun c10 => ?_)
      · have h := sy_t c10 h
        refine lv_aload_n hx hb dX12_drift_116 rfl (lv_at hl 0 rfl) ?_
        refine sy_q11 fx X (sy_OModel_o ht) 22 (by decide) wm_174 (fun _ h9 => h9) rfl (sy_OModel_r22 ht) dX12_drift_117 ?_
        refine lv_iconst (v := 2) hx hb dX12_drift_120 (by decide) ?_
        refine sy_iald fx X (sy_OModel_a22 ht) (by decide) dX12_drift_121 ?_
        refine lv_iload_n hx hb dX12_drift_122 rfl (lv_at hl 2 rfl) ?_
        refine lv_isub hx hb dX12_drift_123 ?_
        exact sy_iret fx X hr hlk h dX12_drift_124
      · have h := sy_f c10 h
        refine lv_aload_n hx hb dX12_drift_37 rfl (lv_at hl 0 rfl) ?_
        refine lv_aload_n hx hb dX12_drift_38 rfl (lv_at hl 0 rfl) ?_
        refine sy_g11 fx X (sy_OModel_o ht) 19 (by decide) wm_188 (fun _ h9 => h9) rfl dX12_drift_39 ?_
        obtain ⟨r12, S11, hc13, h⟩ := sy_c_e h
        refine sy_vi (rest := []) fx hA X hl.1 (sy_OModel_o ht) (sy_en11 (sy_OModel_o ht).2) rfl (c_Model_draw l ht hc13) cv_Model_draw wm_662 ⟨Nat.le_of_ble_eq_true rfl, Nat.le_of_ble_eq_true rfl, Nat.le_refl _, Nat.le_refl _⟩ rfl rfl (Nat.le_of_ble_eq_true rfl) dX12_drift_42 (fun H locs X => ?_)
        refine lv_istore (lv' := [(4, .int r12), (0, .ref (sy_ad E 392)), (1, .int y1), (2, .int y2), (3, .int y3)]) hx hb dX12_drift_45 hl (by decide) rfl (fun ls hl => ?_)
        refine lv_aload_n hx hb dX12_drift_47 rfl (lv_at hl 1 rfl) ?_
        refine lv_iload hx hb dX12_drift_48 (lv_at hl 0 rfl) ?_
        obtain ⟨r15, S14, hc16, h⟩ := sy_c_e h
        refine sy_vi (rest := []) fx hA X hl.1 (sy_OModel_o ht) (sy_en11 (sy_OModel_o ht).2) rfl (c_Model_isSonOfWhoHolds l ht hc16) cv_Model_isSonOfWhoHolds wm_602 ⟨Nat.le_of_ble_eq_true rfl, Nat.le_of_ble_eq_true rfl, Nat.le_refl _, Nat.le_refl _⟩ rfl rfl (Nat.le_of_ble_eq_true rfl) dX12_drift_50 (fun H locs X => ?_)
        refine lv_if_eq (tgt := 65) hx hb dX12_drift_53 (by decide) (fun c17 => ?_) (fun c17 => ?_)
        · have h := sy_t c17 h
          refine lv_aload_n hx hb dX12_drift_65 rfl (lv_at hl 1 rfl) ?_
          refine sy_q11 fx X (sy_OModel_o ht) 22 (by decide) wm_174 (fun _ h9 => h9) rfl (sy_OModel_r22 ht) dX12_drift_66 ?_
          refine lv_iload hx hb dX12_drift_69 (lv_at hl 0 rfl) ?_
          obtain ⟨r19, S18, hc20, h⟩ := sy_c_e h
          refine sy_si (rest := []) fx hA X hl.1 (c_Model_holds l (sy_OModel_a22 ht) hc20) cv_Model_holds wm_570 ⟨Nat.le_of_ble_eq_true rfl, Nat.le_of_ble_eq_true rfl, Nat.le_refl _, Nat.le_refl _⟩ rfl rfl (Nat.le_of_ble_eq_true rfl) dX12_drift_71 (fun H locs X => ?_)
          refine lv_if_ne (tgt := 97) hx hb dX12_drift_74 (by decide) (fun c21 => ?_) (fun c21 => ?_)
          · have h := sy_f c21 h
            refine lv_aload_n hx hb dX12_drift_97 rfl (lv_at hl 1 rfl) ?_
            obtain ⟨r23, S22, hc24, h⟩ := sy_c_e h
            refine sy_vv (rest := []) fx hA X hl.1 (sy_OModel_o ht) (sy_en11 (sy_OModel_o ht).2) rfl (c_Model_note l ht hc24) cv_Model_note wm_535 ⟨Nat.le_of_ble_eq_true rfl, Nat.le_of_ble_eq_true rfl, Nat.le_refl _, Nat.le_refl _⟩ rfl rfl (Nat.le_of_ble_eq_true rfl) dX12_drift_98 (fun H locs X => ?_)
            refine lv_aload_n hx hb dX12_drift_101 rfl (lv_at hl 1 rfl) ?_
            refine lv_aload_n hx hb dX12_drift_102 rfl (lv_at hl 1 rfl) ?_
            refine sy_q11 fx X (sy_OModel_o ht) 22 (by decide) wm_174 (fun _ h9 => h9) rfl (sy_OModel_r22 ht) dX12_drift_103 ?_
            refine lv_iconst (v := 0) hx hb dX12_drift_106 (by decide) ?_
            obtain ⟨r26, S25, hc27, h⟩ := sy_c_e h
            refine sy_vv (rest := []) fx hA X hl.1 (sy_OModel_o ht) (sy_en11 (sy_OModel_o ht).2) rfl (c_Model_pass l ht (sy_OModel_a22 ht) hc27) cv_Model_pass wm_542 ⟨Nat.le_of_ble_eq_true rfl, Nat.le_of_ble_eq_true rfl, Nat.le_refl _, Nat.le_refl _⟩ rfl rfl (Nat.le_of_ble_eq_true rfl) dX12_drift_107 (fun H locs X => ?_)
            obtain ⟨x28, hx28, h⟩ := sy_b_e h
            refine lv_iinc (v := x28) (lv' := [(3, .int x28), (4, .int r12), (0, .ref (sy_ad E 392)), (1, .int y1), (2, .int y2)]) hx hb dX12_drift_110 hl (k := 4) rfl (by rw [hx28]; rfl) (by decide) rfl (fun ls hl => ?_)
            refine lv_goto (tgt := 32) hx hb dX12_drift_113 (by decide) ?_
            exact ih32 y1 y2 x28 S25 _ _ _ X (lv_sub hl [2, 3, 4, 0] rfl) h
          · have h := sy_t c21 h
            refine lv_aload_n hx hb dX12_drift_77 rfl (lv_at hl 1 rfl) ?_
            refine lv_iconst (v := 3) hx hb dX12_drift_78 (by decide) ?_
            obtain ⟨r30, S29, hc31, h⟩ := sy_c_e h
            refine sy_vi (rest := []) fx hA X hl.1 (sy_OModel_o ht) (sy_en11 (sy_OModel_o ht).2) rfl (c_Model_draw l ht hc31) cv_Model_draw wm_662 ⟨Nat.le_of_ble_eq_true rfl, Nat.le_of_ble_eq_true rfl, Nat.le_refl _, Nat.le_refl _⟩ rfl rfl (Nat.le_of_ble_eq_true rfl) dX12_drift_79 (fun H locs X => ?_)
            refine lv_istore (lv' := [(5, .int r30), (4, .int r12), (0, .ref (sy_ad E 392)), (1, .int y1), (2, .int y2), (3, .int y3)]) hx hb dX12_drift_82 hl (by decide) rfl (fun ls hl => ?_)
            refine lv_aload_n hx hb dX12_drift_84 rfl (lv_at hl 2 rfl) ?_
            refine lv_aload_n hx hb dX12_drift_85 rfl (lv_at hl 2 rfl) ?_
            refine sy_q11 fx X (sy_OModel_o ht) 22 (by decide) wm_174 (fun _ h9 => h9) rfl (sy_OModel_r22 ht) dX12_drift_86 ?_
            refine lv_iload hx hb dX12_drift_89 (lv_at hl 1 rfl) ?_
            refine lv_iload hx hb dX12_drift_91 (lv_at hl 0 rfl) ?_
            obtain ⟨r33, S32, hc34, h⟩ := sy_c_e h
            refine sy_vi (rest := []) fx hA X hl.1 (sy_OModel_o ht) (sy_en11 (sy_OModel_o ht).2) rfl (c_Model_offers l ht (sy_OModel_a22 ht) hc34) cv_Model_offers wm_573 ⟨Nat.le_of_ble_eq_true rfl, Nat.le_of_ble_eq_true rfl, Nat.le_refl _, Nat.le_refl _⟩ rfl rfl (Nat.le_of_ble_eq_true rfl) dX12_drift_93 (fun H locs X => ?_)
            refine lv_pop hx hb dX12_drift_96 rfl ?_
            refine lv_aload_n hx hb dX12_drift_97 rfl (lv_at hl 2 rfl) ?_
            obtain ⟨r36, S35, hc37, h⟩ := sy_c_e h
            refine sy_vv (rest := []) fx hA X hl.1 (sy_OModel_o ht) (sy_en11 (sy_OModel_o ht).2) rfl (c_Model_note l ht hc37) cv_Model_note wm_535 ⟨Nat.le_of_ble_eq_true rfl, Nat.le_of_ble_eq_true rfl, Nat.le_refl _, Nat.le_refl _⟩ rfl rfl (Nat.le_of_ble_eq_true rfl) dX12_drift_98 (fun H locs X => ?_)
            refine lv_aload_n hx hb dX12_drift_101 rfl (lv_at hl 2 rfl) ?_
            refine lv_aload_n hx hb dX12_drift_102 rfl (lv_at hl 2 rfl) ?_
            refine sy_q11 fx X (sy_OModel_o ht) 22 (by decide) wm_174 (fun _ h9 => h9) rfl (sy_OModel_r22 ht) dX12_drift_103 ?_
            refine lv_iconst (v := 0) hx hb dX12_drift_106 (by decide) ?_
            obtain ⟨r39, S38, hc40, h⟩ := sy_c_e h
            refine sy_vv (rest := []) fx hA X hl.1 (sy_OModel_o ht) (sy_en11 (sy_OModel_o ht).2) rfl (c_Model_pass l ht (sy_OModel_a22 ht) hc40) cv_Model_pass wm_542 ⟨Nat.le_of_ble_eq_true rfl, Nat.le_of_ble_eq_true rfl, Nat.le_refl _, Nat.le_refl _⟩ rfl rfl (Nat.le_of_ble_eq_true rfl) dX12_drift_107 (fun H locs X => ?_)
            obtain ⟨x41, hx41, h⟩ := sy_b_e h
            refine lv_iinc (v := x41) (lv' := [(3, .int x41), (5, .int r30), (4, .int r12), (0, .ref (sy_ad E 392)), (1, .int y1), (2, .int y2)]) hx hb dX12_drift_110 hl (k := 5) rfl (by rw [hx41]; rfl) (by decide) rfl (fun ls hl => ?_)
            refine lv_goto (tgt := 32) hx hb dX12_drift_113 (by decide) ?_
            exact ih32 y1 y2 x41 S38 _ _ _ X (lv_sub hl [3, 4, 5, 0] rfl) h
        · have h := sy_f c17 h
          refine lv_aload_n hx hb dX12_drift_56 rfl (lv_at hl 1 rfl) ?_
          refine lv_iload hx hb dX12_drift_57 (lv_at hl 0 rfl) ?_
          obtain ⟨r43, S42, hc44, h⟩ := sy_c_e h
          refine sy_vv (rest := []) fx hA X hl.1 (sy_OModel_o ht) (sy_en11 (sy_OModel_o ht).2) rfl (c_Model_takesIt l ht hc44) cv_Model_takesIt wm_610 ⟨Nat.le_of_ble_eq_true rfl, Nat.le_of_ble_eq_true rfl, Nat.le_refl _, Nat.le_refl _⟩ rfl rfl (Nat.le_of_ble_eq_true rfl) dX12_drift_59 (fun H locs X => ?_)
          refine lv_goto (tgt := 97) hx hb dX12_drift_62 (by decide) ?_
          refine lv_aload_n hx hb dX12_drift_97 rfl (lv_at hl 1 rfl) ?_
          obtain ⟨r46, S45, hc47, h⟩ := sy_c_e h
          refine sy_vv (rest := []) fx hA X hl.1 (sy_OModel_o ht) (sy_en11 (sy_OModel_o ht).2) rfl (c_Model_note l ht hc47) cv_Model_note wm_535 ⟨Nat.le_of_ble_eq_true rfl, Nat.le_of_ble_eq_true rfl, Nat.le_refl _, Nat.le_refl _⟩ rfl rfl (Nat.le_of_ble_eq_true rfl) dX12_drift_98 (fun H locs X => ?_)
          refine lv_aload_n hx hb dX12_drift_101 rfl (lv_at hl 1 rfl) ?_
          refine lv_aload_n hx hb dX12_drift_102 rfl (lv_at hl 1 rfl) ?_
          refine sy_q11 fx X (sy_OModel_o ht) 22 (by decide) wm_174 (fun _ h9 => h9) rfl (sy_OModel_r22 ht) dX12_drift_103 ?_
          refine lv_iconst (v := 0) hx hb dX12_drift_106 (by decide) ?_
          obtain ⟨r49, S48, hc50, h⟩ := sy_c_e h
          refine sy_vv (rest := []) fx hA X hl.1 (sy_OModel_o ht) (sy_en11 (sy_OModel_o ht).2) rfl (c_Model_pass l ht (sy_OModel_a22 ht) hc50) cv_Model_pass wm_542 ⟨Nat.le_of_ble_eq_true rfl, Nat.le_of_ble_eq_true rfl, Nat.le_refl _, Nat.le_refl _⟩ rfl rfl (Nat.le_of_ble_eq_true rfl) dX12_drift_107 (fun H locs X => ?_)
          obtain ⟨x51, hx51, h⟩ := sy_b_e h
          refine lv_iinc (v := x51) (lv' := [(3, .int x51), (4, .int r12), (0, .ref (sy_ad E 392)), (1, .int y1), (2, .int y2)]) hx hb dX12_drift_110 hl (k := 4) rfl (by rw [hx51]; rfl) (by decide) rfl (fun ls hl => ?_)
          refine lv_goto (tgt := 32) hx hb dX12_drift_113 (by decide) ?_
          exact ih32 y1 y2 x51 S48 _ _ _ X (lv_sub hl [2, 3, 4, 0] rfl) h
  unfold m_Model_drift at h
  refine lv_iload_n hx hb dX12_drift_0 rfl (lv_at hl 1 rfl) ?_
  refine lv_iconst (v := 1) hx hb dX12_drift_1 (by decide) ?_
  refine lv_bipush (v := 99) hx hb dX12_drift_2 (by decide) ?_
  obtain ⟨r2, S1, hc3, h⟩ := sy_c_e h
  refine sy_si (rest := []) fx hA X hl.1 (c_Model_in l hc3) cv_Model_in wm_211 ⟨Nat.le_of_ble_eq_true rfl, Nat.le_of_ble_eq_true rfl, Nat.le_refl _, Nat.le_refl _⟩ rfl rfl (Nat.le_of_ble_eq_true rfl) dX12_drift_4 (fun H locs X => ?_)
  refine lv_if_ne (tgt := 13) hx hb dX12_drift_7 (by decide) (fun c4 => ?_) (fun c4 => ?_)
  · have h := sy_f c4 h
    refine lv_aload_n hx hb dX12_drift_13 rfl (lv_at hl 0 rfl) ?_
    obtain ⟨r6, S5, hc7, h⟩ := sy_c_e h
    refine sy_vi (rest := []) fx hA X hl.1 (sy_OModel_o ht) (sy_en11 (sy_OModel_o ht).2) rfl (c_Model_isHere l ht hc7) cv_Model_isHere wm_531 ⟨Nat.le_of_ble_eq_true rfl, Nat.le_of_ble_eq_true rfl, Nat.le_refl _, Nat.le_refl _⟩ rfl rfl (Nat.le_of_ble_eq_true rfl) dX12_drift_14 (fun H locs X => ?_)
    refine lv_if_ne (tgt := 23) hx hb dX12_drift_17 (by decide) (fun c8 => ?_) (fun c8 => ?_)
    · have h := sy_f c8 h
      refine lv_aload_n hx hb dX12_drift_23 rfl (lv_at hl 0 rfl) ?_
      refine sy_q11 fx X (sy_OModel_o ht) 22 (by decide) wm_174 (fun _ h9 => h9) rfl (sy_OModel_r22 ht) dX12_drift_24 ?_
      refine lv_iconst (v := 2) hx hb dX12_drift_27 (by decide) ?_
      refine sy_iald fx X (sy_OModel_a22 ht) (by decide) dX12_drift_28 ?_
      obtain ⟨x9, hx9, h⟩ := sy_b_e h
      refine sy_top hx9 ?_
      refine lv_istore_n (lv' := [(2, .int x9), (0, .ref (sy_ad E 392)), (1, .int p0)]) hx hb dX12_drift_29 rfl hl (by decide) rfl (fun ls hl => ?_)
      refine lv_iconst (v := 0) hx hb dX12_drift_30 (by decide) ?_
      refine lv_istore_n (lv' := [(3, .int 0), (2, .int x9), (0, .ref (sy_ad E 392)), (1, .int p0)]) hx hb dX12_drift_31 rfl hl (by decide) rfl (fun ls hl => ?_)
      exact L_32 sy_F p0 x9 0 S5 _ _ _ X (lv_sub hl [2, 3, 1, 0] rfl) h
    · have h := sy_t c8 h
      refine lv_ldc (v := (-1000000003)) hx hb hown (hts _ wm_530) dX12_drift_20 ?_
      exact sy_iret fx X hr hlk h dX12_drift_22
  · have h := sy_t c4 h
    refine lv_ldc (v := (-1000000002)) hx hb hown (hts _ wm_208) dX12_drift_10 ?_
    exact sy_iret fx X hr hlk h dX12_drift_12
def m_Model_nextToken_J177 (S : sy_St) : sy_R := if ((S 392 2) - (S 392 3)) ≤ 3 then (sy_b (sy_up S 392 4 (-1)) fun S35 => some (0, S35)) else (sy_b (sy_up S 392 4 (-3)) fun S36 => some (0, S36))
def m_Model_nextToken_B90 (kk90 : sy_St → sy_R) (S : sy_St) : sy_R := if (S 392 0) ≤ (S 392 2) then (m_Model_nextToken_J177 S) else (sy_b (S 392 2 : Int32) fun x21 => sy_g (sy_in x21 250) <| sy_c (m_Model_in (S 393 x21.toNatClampNeg) 48 57 S) fun r24 S23 => if r24 = 0 then (m_Model_nextToken_J177 S23) else (if 3 ≤ ((S23 392 2) - (S23 392 3)) then (sy_b (sy_up S23 392 5 (S23 392 5)) fun S28 => sy_b (sy_up S28 392 2 ((S28 392 2) + 1)) fun S29 => kk90 S29) else (sy_b (S23 392 2 : Int32) fun x30 => sy_g (sy_in x30 250) <| sy_b (sy_up S23 392 5 (((10 * (S23 392 5)) + (S23 393 x30.toNatClampNeg)) - 48)) fun S32 => sy_b (sy_up S32 392 2 ((S32 392 2) + 1)) fun S33 => kk90 S33)))
def m_Model_nextToken_J38 (S : sy_St) : sy_R := sy_b (sy_up S 392 3 (S 392 2)) fun S6 => sy_b (sy_up S6 392 5 0) fun S7 => if (S7 392 2) = (S7 392 0) then (sy_b (sy_up S7 392 4 (-2)) fun S19 => some (0, S19)) else (sy_b (S7 392 2 : Int32) fun x9 => sy_g (sy_in x9 250) <| sy_c (m_Model_in (S7 393 x9.toNatClampNeg) 48 57 S7) fun r12 S11 => if r12 = 0 then (sy_b (S11 392 2 : Int32) fun x15 => sy_g (sy_in x15 250) <| sy_b (sy_up S11 392 4 (S11 393 x15.toNatClampNeg)) fun S17 => sy_b (sy_up S17 392 2 ((S17 392 2) + 1)) fun S18 => some (0, S18)) else (sy_fix (fun _ => none) (m_Model_nextToken_B90) sy_F S11))
def m_Model_nextToken_B0 (kk0 : sy_St → sy_R) (S : sy_St) : sy_R := if (S 392 0) ≤ (S 392 2) then (m_Model_nextToken_J38 S) else (sy_b (S 392 2 : Int32) fun x2 => sy_g (sy_in x2 250) <| if (S 393 x2.toNatClampNeg) = 32 then (sy_b (sy_up S 392 2 ((S 392 2) + 1)) fun S5 => kk0 S5) else (m_Model_nextToken_J38 S))
def m_Model_nextToken (S : sy_St) : sy_R := sy_fix (fun _ => none) (m_Model_nextToken_B0) sy_F S
theorem cv_Model_nextToken : sy_cV RX12 yX12_nextToken cX12_nextToken 1 none 0 := ⟨wm_343, wm_344, wm_5, wm_345, by decide +kernel⟩
set_option maxRecDepth 100000 in
set_option maxHeartbeats 40000000 in
theorem c_Model_nextToken (l : Launch) {E : sy_ET} (ht : sy_OModel E) {S S' : sy_St} {r : Int32} (h : m_Model_nextToken S = some (r, S')) : sy_MV l yX12_nextToken cX12_nextToken 1 1 22 [.ref (sy_ad E 392)] E S S' := by
  refine sy_MV_of RX12 pn_12 rfl (Nat.le_of_ble_eq_true rfl) (fun p e s m args below meth c A ls fx hr hlk hA X hl => ?_)
  have hx := fx.1
  have hb := fx.2.1
  have hown := fx.2.2.2.1
  have hts := fx.2.2.2.2
  have hl : lv_has ls 1 [(0, .ref (sy_ad E 392))] := hl
  have J_177 : ∀ (S : sy_St) (H : Heap) (locs : List Loc) (ls : Array Slot), sy_Wd E A s S H locs → lv_has ls 1 [(0, .ref (sy_ad E 392))] → m_Model_nextToken_J177 S = some (r, S') → W p l e (sy_rm 1 22) s m args below meth c H locs 0 0 (MQ below (sy_Qv E A S') args s 0 0 A) (F0 m 177 ls []) := by
    intro  S H locs ls X hl h
    unfold m_Model_nextToken_J177 at h
    refine lv_aload_n hx hb dX12_nextToken_177 rfl (lv_at hl 0 rfl) ?_
    refine lv_aload_n hx hb dX12_nextToken_178 rfl (lv_at hl 0 rfl) ?_
    refine sy_g11 fx X (sy_OModel_o ht) 2 (by decide) wm_337 (fun _ h9 => h9) rfl dX12_nextToken_179 ?_
    refine lv_aload_n hx hb dX12_nextToken_182 rfl (lv_at hl 0 rfl) ?_
    refine sy_g11 fx X (sy_OModel_o ht) 3 (by decide) wm_346 (fun _ h9 => h9) rfl dX12_nextToken_183 ?_
    refine lv_isub hx hb dX12_nextToken_186 ?_
    refine lv_iconst (v := 3) hx hb dX12_nextToken_187 (by decide) ?_
    refine lv_icmp_le (tgt := 196) hx hb dX12_nextToken_188 (by decide) (fun c34 => ?_) (fun c34 => ?_)
    · have h := sy_t c34 h
      refine lv_iconst (v := (-1)) hx hb dX12_nextToken_196 (by decide) ?_
      obtain ⟨S35, hS35, h⟩ := sy_b_e h
      refine sy_p11 fx X (sy_OModel_o ht) 4 (by decide) wm_341 (fun _ h9 => h9) rfl (ty := .int) (by decide +kernel) rfl rfl hS35 sy_s11_4 dX12_nextToken_197 (fun H locs X => ?_)
      refine lv_goto (tgt := 226) hx hb dX12_nextToken_200 (by decide) ?_
      exact sy_vret fx X hr hlk h dX12_nextToken_226
    · have h := sy_f c34 h
      refine lv_bipush (v := (-3)) hx hb dX12_nextToken_191 (by decide) ?_
      refine lv_goto (tgt := 197) hx hb dX12_nextToken_193 (by decide) ?_
      obtain ⟨S36, hS36, h⟩ := sy_b_e h
      refine sy_p11 fx X (sy_OModel_o ht) 4 (by decide) wm_341 (fun _ h9 => h9) rfl (ty := .int) (by decide +kernel) rfl rfl hS36 sy_s11_4 dX12_nextToken_197 (fun H locs X => ?_)
      refine lv_goto (tgt := 226) hx hb dX12_nextToken_200 (by decide) ?_
      exact sy_vret fx X hr hlk h dX12_nextToken_226
  have L_90 : ∀ (n90 : Nat) (S : sy_St) (H : Heap) (locs : List Loc) (ls : Array Slot), sy_Wd E A s S H locs → lv_has ls 1 [(0, .ref (sy_ad E 392))] → sy_fix (fun _ => none) (m_Model_nextToken_B90) n90 S = some (r, S') → W p l e (sy_rm 1 22) s m args below meth c H locs 0 0 (MQ below (sy_Qv E A S') args s 0 0 A) (F0 m 90 ls []) := by
    intro n90
    induction n90 with
    | zero => intro  S H locs ls X hl h; have h9 : (none : sy_R) = some (r, S') := h; cases h9
    | succ n90 ih90 =>
      intro  S H locs ls X hl h
      have h : m_Model_nextToken_B90 (sy_fix (fun _ => none) (m_Model_nextToken_B90) n90) S = some (r, S') := h
      unfold m_Model_nextToken_B90 at h
      refine lv_aload_n hx hb dX12_nextToken_90 rfl (lv_at hl 0 rfl) ?_
      refine sy_g11 fx X (sy_OModel_o ht) 2 (by decide) wm_337 (fun _ h9 => h9) rfl dX12_nextToken_91 ?_
      refine lv_aload_n hx hb dX12_nextToken_94 rfl (lv_at hl 0 rfl) ?_
      refine sy_g11 fx X (sy_OModel_o ht) 0 (by decide) wm_209 (fun _ h9 => h9) rfl dX12_nextToken_95 ?_
      refine lv_icmp_ge (tgt := 177) hx hb dX12_nextToken_98 (by decide) (fun c20 => ?_) (fun c20 => ?_)
      · have h := sy_t c20 h
        exact J_177 S _ _ _ X (lv_sub hl [0] rfl) h
      · have h := sy_f c20 h
        refine lv_aload_n hx hb dX12_nextToken_101 rfl (lv_at hl 0 rfl) ?_
        refine sy_q11 fx X (sy_OModel_o ht) 1 (by decide) wm_166 (fun _ h9 => h9) rfl (sy_OModel_r1 ht) dX12_nextToken_102 ?_
        refine lv_aload_n hx hb dX12_nextToken_105 rfl (lv_at hl 0 rfl) ?_
        refine sy_g11 fx X (sy_OModel_o ht) 2 (by decide) wm_337 (fun _ h9 => h9) rfl dX12_nextToken_106 ?_
        obtain ⟨x21, hx21, h⟩ := sy_b_e h
        refine sy_top hx21 ?_
        obtain ⟨g22, h⟩ := sy_g_e h
        refine sy_iald fx X (sy_OModel_a1 ht) g22 dX12_nextToken_109 ?_
        refine lv_bipush (v := 48) hx hb dX12_nextToken_110 (by decide) ?_
        refine lv_bipush (v := 57) hx hb dX12_nextToken_112 (by decide) ?_
        obtain ⟨r24, S23, hc25, h⟩ := sy_c_e h
        refine sy_si (rest := []) fx hA X hl.1 (c_Model_in l hc25) cv_Model_in wm_211 ⟨Nat.le_of_ble_eq_true rfl, Nat.le_of_ble_eq_true rfl, Nat.le_refl _, Nat.le_refl _⟩ rfl rfl (Nat.le_of_ble_eq_true rfl) dX12_nextToken_114 (fun H locs X => ?_)
        refine lv_if_eq (tgt := 177) hx hb dX12_nextToken_117 (by decide) (fun c26 => ?_) (fun c26 => ?_)
        · have h := sy_t c26 h
          exact J_177 S23 _ _ _ X (lv_sub hl [0] rfl) h
        · have h := sy_f c26 h
          refine lv_aload_n hx hb dX12_nextToken_120 rfl (lv_at hl 0 rfl) ?_
          refine lv_aload_n hx hb dX12_nextToken_121 rfl (lv_at hl 0 rfl) ?_
          refine sy_g11 fx X (sy_OModel_o ht) 2 (by decide) wm_337 (fun _ h9 => h9) rfl dX12_nextToken_122 ?_
          refine lv_aload_n hx hb dX12_nextToken_125 rfl (lv_at hl 0 rfl) ?_
          refine sy_g11 fx X (sy_OModel_o ht) 3 (by decide) wm_346 (fun _ h9 => h9) rfl dX12_nextToken_126 ?_
          refine lv_isub hx hb dX12_nextToken_129 ?_
          refine lv_iconst (v := 3) hx hb dX12_nextToken_130 (by decide) ?_
          refine lv_icmp_ge (tgt := 157) hx hb dX12_nextToken_131 (by decide) (fun c27 => ?_) (fun c27 => ?_)
          · have h := sy_t c27 h
            refine lv_aload_n hx hb dX12_nextToken_157 rfl (lv_at hl 0 rfl) ?_
            refine sy_g11 fx X (sy_OModel_o ht) 5 (by decide) wm_347 (fun _ h9 => h9) rfl dX12_nextToken_158 ?_
            obtain ⟨S28, hS28, h⟩ := sy_b_e h
            refine sy_p11 fx X (sy_OModel_o ht) 5 (by decide) wm_347 (fun _ h9 => h9) rfl (ty := .int) (by decide +kernel) rfl rfl hS28 sy_s11_5 dX12_nextToken_161 (fun H locs X => ?_)
            refine lv_aload_n hx hb dX12_nextToken_164 rfl (lv_at hl 0 rfl) ?_
            refine lv_dup hx hb dX12_nextToken_165 rfl ?_
            refine sy_g11 fx X (sy_OModel_o ht) 2 (by decide) wm_337 (fun _ h9 => h9) rfl dX12_nextToken_166 ?_
            refine lv_iconst (v := 1) hx hb dX12_nextToken_169 (by decide) ?_
            refine lv_iadd hx hb dX12_nextToken_170 ?_
            obtain ⟨S29, hS29, h⟩ := sy_b_e h
            refine sy_p11 fx X (sy_OModel_o ht) 2 (by decide) wm_337 (fun _ h9 => h9) rfl (ty := .int) (by decide +kernel) rfl rfl hS29 sy_s11_2 dX12_nextToken_171 (fun H locs X => ?_)
            refine lv_goto (tgt := 90) hx hb dX12_nextToken_174 (by decide) ?_
            exact ih90 S29 _ _ _ X (lv_sub hl [0] rfl) h
          · have h := sy_f c27 h
            refine lv_bipush (v := 10) hx hb dX12_nextToken_134 (by decide) ?_
            refine lv_aload_n hx hb dX12_nextToken_136 rfl (lv_at hl 0 rfl) ?_
            refine sy_g11 fx X (sy_OModel_o ht) 5 (by decide) wm_347 (fun _ h9 => h9) rfl dX12_nextToken_137 ?_
            refine lv_imul hx hb dX12_nextToken_140 ?_
            refine lv_aload_n hx hb dX12_nextToken_141 rfl (lv_at hl 0 rfl) ?_
            refine sy_q11 fx X (sy_OModel_o ht) 1 (by decide) wm_166 (fun _ h9 => h9) rfl (sy_OModel_r1 ht) dX12_nextToken_142 ?_
            refine lv_aload_n hx hb dX12_nextToken_145 rfl (lv_at hl 0 rfl) ?_
            refine sy_g11 fx X (sy_OModel_o ht) 2 (by decide) wm_337 (fun _ h9 => h9) rfl dX12_nextToken_146 ?_
            obtain ⟨x30, hx30, h⟩ := sy_b_e h
            refine sy_top hx30 ?_
            obtain ⟨g31, h⟩ := sy_g_e h
            refine sy_iald fx X (sy_OModel_a1 ht) g31 dX12_nextToken_149 ?_
            refine lv_iadd hx hb dX12_nextToken_150 ?_
            refine lv_bipush (v := 48) hx hb dX12_nextToken_151 (by decide) ?_
            refine lv_isub hx hb dX12_nextToken_153 ?_
            refine lv_goto (tgt := 161) hx hb dX12_nextToken_154 (by decide) ?_
            obtain ⟨S32, hS32, h⟩ := sy_b_e h
            refine sy_p11 fx X (sy_OModel_o ht) 5 (by decide) wm_347 (fun _ h9 => h9) rfl (ty := .int) (by decide +kernel) rfl rfl hS32 sy_s11_5 dX12_nextToken_161 (fun H locs X => ?_)
            refine lv_aload_n hx hb dX12_nextToken_164 rfl (lv_at hl 0 rfl) ?_
            refine lv_dup hx hb dX12_nextToken_165 rfl ?_
            refine sy_g11 fx X (sy_OModel_o ht) 2 (by decide) wm_337 (fun _ h9 => h9) rfl dX12_nextToken_166 ?_
            refine lv_iconst (v := 1) hx hb dX12_nextToken_169 (by decide) ?_
            refine lv_iadd hx hb dX12_nextToken_170 ?_
            obtain ⟨S33, hS33, h⟩ := sy_b_e h
            refine sy_p11 fx X (sy_OModel_o ht) 2 (by decide) wm_337 (fun _ h9 => h9) rfl (ty := .int) (by decide +kernel) rfl rfl hS33 sy_s11_2 dX12_nextToken_171 (fun H locs X => ?_)
            refine lv_goto (tgt := 90) hx hb dX12_nextToken_174 (by decide) ?_
            exact ih90 S33 _ _ _ X (lv_sub hl [0] rfl) h
  have J_38 : ∀ (S : sy_St) (H : Heap) (locs : List Loc) (ls : Array Slot), sy_Wd E A s S H locs → lv_has ls 1 [(0, .ref (sy_ad E 392))] → m_Model_nextToken_J38 S = some (r, S') → W p l e (sy_rm 1 22) s m args below meth c H locs 0 0 (MQ below (sy_Qv E A S') args s 0 0 A) (F0 m 38 ls []) := by
    intro  S H locs ls X hl h
    unfold m_Model_nextToken_J38 at h
    refine lv_aload_n hx hb dX12_nextToken_38 rfl (lv_at hl 0 rfl) ?_
    refine lv_aload_n hx hb dX12_nextToken_39 rfl (lv_at hl 0 rfl) ?_
    refine sy_g11 fx X (sy_OModel_o ht) 2 (by decide) wm_337 (fun _ h9 => h9) rfl dX12_nextToken_40 ?_
    obtain ⟨S6, hS6, h⟩ := sy_b_e h
    refine sy_p11 fx X (sy_OModel_o ht) 3 (by decide) wm_346 (fun _ h9 => h9) rfl (ty := .int) (by decide +kernel) rfl rfl hS6 sy_s11_3 dX12_nextToken_43 (fun H locs X => ?_)
    refine lv_aload_n hx hb dX12_nextToken_46 rfl (lv_at hl 0 rfl) ?_
    refine lv_iconst (v := 0) hx hb dX12_nextToken_47 (by decide) ?_
    obtain ⟨S7, hS7, h⟩ := sy_b_e h
    refine sy_p11 fx X (sy_OModel_o ht) 5 (by decide) wm_347 (fun _ h9 => h9) rfl (ty := .int) (by decide +kernel) rfl rfl hS7 sy_s11_5 dX12_nextToken_48 (fun H locs X => ?_)
    refine lv_aload_n hx hb dX12_nextToken_51 rfl (lv_at hl 0 rfl) ?_
    refine sy_g11 fx X (sy_OModel_o ht) 2 (by decide) wm_337 (fun _ h9 => h9) rfl dX12_nextToken_52 ?_
    refine lv_aload_n hx hb dX12_nextToken_55 rfl (lv_at hl 0 rfl) ?_
    refine sy_g11 fx X (sy_OModel_o ht) 0 (by decide) wm_209 (fun _ h9 => h9) rfl dX12_nextToken_56 ?_
    refine lv_icmp_ne (tgt := 71) hx hb dX12_nextToken_59 (by decide) (fun c8 => ?_) (fun c8 => ?_)
    · have h := sy_f c8 h
      refine lv_aload_n hx hb dX12_nextToken_71 rfl (lv_at hl 0 rfl) ?_
      refine sy_q11 fx X (sy_OModel_o ht) 1 (by decide) wm_166 (fun _ h9 => h9) rfl (sy_OModel_r1 ht) dX12_nextToken_72 ?_
      refine lv_aload_n hx hb dX12_nextToken_75 rfl (lv_at hl 0 rfl) ?_
      refine sy_g11 fx X (sy_OModel_o ht) 2 (by decide) wm_337 (fun _ h9 => h9) rfl dX12_nextToken_76 ?_
      obtain ⟨x9, hx9, h⟩ := sy_b_e h
      refine sy_top hx9 ?_
      obtain ⟨g10, h⟩ := sy_g_e h
      refine sy_iald fx X (sy_OModel_a1 ht) g10 dX12_nextToken_79 ?_
      refine lv_bipush (v := 48) hx hb dX12_nextToken_80 (by decide) ?_
      refine lv_bipush (v := 57) hx hb dX12_nextToken_82 (by decide) ?_
      obtain ⟨r12, S11, hc13, h⟩ := sy_c_e h
      refine sy_si (rest := []) fx hA X hl.1 (c_Model_in l hc13) cv_Model_in wm_211 ⟨Nat.le_of_ble_eq_true rfl, Nat.le_of_ble_eq_true rfl, Nat.le_refl _, Nat.le_refl _⟩ rfl rfl (Nat.le_of_ble_eq_true rfl) dX12_nextToken_84 (fun H locs X => ?_)
      refine lv_if_eq (tgt := 203) hx hb dX12_nextToken_87 (by decide) (fun c14 => ?_) (fun c14 => ?_)
      · have h := sy_t c14 h
        refine lv_aload_n hx hb dX12_nextToken_203 rfl (lv_at hl 0 rfl) ?_
        refine lv_aload_n hx hb dX12_nextToken_204 rfl (lv_at hl 0 rfl) ?_
        refine sy_q11 fx X (sy_OModel_o ht) 1 (by decide) wm_166 (fun _ h9 => h9) rfl (sy_OModel_r1 ht) dX12_nextToken_205 ?_
        refine lv_aload_n hx hb dX12_nextToken_208 rfl (lv_at hl 0 rfl) ?_
        refine sy_g11 fx X (sy_OModel_o ht) 2 (by decide) wm_337 (fun _ h9 => h9) rfl dX12_nextToken_209 ?_
        obtain ⟨x15, hx15, h⟩ := sy_b_e h
        refine sy_top hx15 ?_
        obtain ⟨g16, h⟩ := sy_g_e h
        refine sy_iald fx X (sy_OModel_a1 ht) g16 dX12_nextToken_212 ?_
        obtain ⟨S17, hS17, h⟩ := sy_b_e h
        refine sy_p11 fx X (sy_OModel_o ht) 4 (by decide) wm_341 (fun _ h9 => h9) rfl (ty := .int) (by decide +kernel) rfl rfl hS17 sy_s11_4 dX12_nextToken_213 (fun H locs X => ?_)
        refine lv_aload_n hx hb dX12_nextToken_216 rfl (lv_at hl 0 rfl) ?_
        refine lv_dup hx hb dX12_nextToken_217 rfl ?_
        refine sy_g11 fx X (sy_OModel_o ht) 2 (by decide) wm_337 (fun _ h9 => h9) rfl dX12_nextToken_218 ?_
        refine lv_iconst (v := 1) hx hb dX12_nextToken_221 (by decide) ?_
        refine lv_iadd hx hb dX12_nextToken_222 ?_
        obtain ⟨S18, hS18, h⟩ := sy_b_e h
        refine sy_p11 fx X (sy_OModel_o ht) 2 (by decide) wm_337 (fun _ h9 => h9) rfl (ty := .int) (by decide +kernel) rfl rfl hS18 sy_s11_2 dX12_nextToken_223 (fun H locs X => ?_)
        exact sy_vret fx X hr hlk h dX12_nextToken_226
      · have h := sy_f c14 h
        exact L_90 sy_F S11 _ _ _ X (lv_sub hl [0] rfl) h
    · have h := sy_t c8 h
      refine lv_aload_n hx hb dX12_nextToken_62 rfl (lv_at hl 0 rfl) ?_
      refine lv_bipush (v := (-2)) hx hb dX12_nextToken_63 (by decide) ?_
      obtain ⟨S19, hS19, h⟩ := sy_b_e h
      refine sy_p11 fx X (sy_OModel_o ht) 4 (by decide) wm_341 (fun _ h9 => h9) rfl (ty := .int) (by decide +kernel) rfl rfl hS19 sy_s11_4 dX12_nextToken_65 (fun H locs X => ?_)
      refine lv_goto (tgt := 226) hx hb dX12_nextToken_68 (by decide) ?_
      exact sy_vret fx X hr hlk h dX12_nextToken_226
  have L_0 : ∀ (n0 : Nat) (S : sy_St) (H : Heap) (locs : List Loc) (ls : Array Slot), sy_Wd E A s S H locs → lv_has ls 1 [(0, .ref (sy_ad E 392))] → sy_fix (fun _ => none) (m_Model_nextToken_B0) n0 S = some (r, S') → W p l e (sy_rm 1 22) s m args below meth c H locs 0 0 (MQ below (sy_Qv E A S') args s 0 0 A) (F0 m 0 ls []) := by
    intro n0
    induction n0 with
    | zero => intro  S H locs ls X hl h; have h9 : (none : sy_R) = some (r, S') := h; cases h9
    | succ n0 ih0 =>
      intro  S H locs ls X hl h
      have h : m_Model_nextToken_B0 (sy_fix (fun _ => none) (m_Model_nextToken_B0) n0) S = some (r, S') := h
      unfold m_Model_nextToken_B0 at h
      refine lv_aload_n hx hb dX12_nextToken_0 rfl (lv_at hl 0 rfl) ?_
      refine sy_g11 fx X (sy_OModel_o ht) 2 (by decide) wm_337 (fun _ h9 => h9) rfl dX12_nextToken_1 ?_
      refine lv_aload_n hx hb dX12_nextToken_4 rfl (lv_at hl 0 rfl) ?_
      refine sy_g11 fx X (sy_OModel_o ht) 0 (by decide) wm_209 (fun _ h9 => h9) rfl dX12_nextToken_5 ?_
      refine lv_icmp_ge (tgt := 38) hx hb dX12_nextToken_8 (by decide) (fun c1 => ?_) (fun c1 => ?_)
      · have h := sy_t c1 h
        exact J_38 S _ _ _ X (lv_sub hl [0] rfl) h
      · have h := sy_f c1 h
        refine lv_aload_n hx hb dX12_nextToken_11 rfl (lv_at hl 0 rfl) ?_
        refine sy_q11 fx X (sy_OModel_o ht) 1 (by decide) wm_166 (fun _ h9 => h9) rfl (sy_OModel_r1 ht) dX12_nextToken_12 ?_
        refine lv_aload_n hx hb dX12_nextToken_15 rfl (lv_at hl 0 rfl) ?_
        refine sy_g11 fx X (sy_OModel_o ht) 2 (by decide) wm_337 (fun _ h9 => h9) rfl dX12_nextToken_16 ?_
        obtain ⟨x2, hx2, h⟩ := sy_b_e h
        refine sy_top hx2 ?_
        obtain ⟨g3, h⟩ := sy_g_e h
        refine sy_iald fx X (sy_OModel_a1 ht) g3 dX12_nextToken_19 ?_
        refine lv_bipush (v := 32) hx hb dX12_nextToken_20 (by decide) ?_
        refine lv_icmp_ne (tgt := 38) hx hb dX12_nextToken_22 (by decide) (fun c4 => ?_) (fun c4 => ?_)
        · have h := sy_f c4 h
          exact J_38 S _ _ _ X (lv_sub hl [0] rfl) h
        · have h := sy_t c4 h
          refine lv_aload_n hx hb dX12_nextToken_25 rfl (lv_at hl 0 rfl) ?_
          refine lv_dup hx hb dX12_nextToken_26 rfl ?_
          refine sy_g11 fx X (sy_OModel_o ht) 2 (by decide) wm_337 (fun _ h9 => h9) rfl dX12_nextToken_27 ?_
          refine lv_iconst (v := 1) hx hb dX12_nextToken_30 (by decide) ?_
          refine lv_iadd hx hb dX12_nextToken_31 ?_
          obtain ⟨S5, hS5, h⟩ := sy_b_e h
          refine sy_p11 fx X (sy_OModel_o ht) 2 (by decide) wm_337 (fun _ h9 => h9) rfl (ty := .int) (by decide +kernel) rfl rfl hS5 sy_s11_2 dX12_nextToken_32 (fun H locs X => ?_)
          refine lv_goto (tgt := 0) hx hb dX12_nextToken_35 (by decide) ?_
          exact ih0 S5 _ _ _ X (lv_sub hl [0] rfl) h
  unfold m_Model_nextToken at h
  exact L_0 sy_F S _ _ _ X (lv_sub hl [0] rfl) h
def m_Model_fails (p0 : Int32) (S : sy_St) : sy_R := sy_b (sy_up S 392 7 p0) fun S1 => sy_b (sy_up S1 392 6 (S1 392 3)) fun S2 => some (0, S2)
theorem cv_Model_fails : sy_cV RX12 yX12_fails cX12_fails 2 (some .boolean) 1 := ⟨wm_353, wm_354, wm_5, wm_355, by decide +kernel⟩
set_option maxRecDepth 100000 in
set_option maxHeartbeats 40000000 in
theorem c_Model_fails (l : Launch) {E : sy_ET} (ht : sy_OModel E) {p0 : Int32} {S S' : sy_St} {r : Int32} (h : m_Model_fails p0 S = some (r, S')) : sy_MI l yX12_fails cX12_fails 2 (some .boolean) 0 0 [.ref (sy_ad E 392), .int p0] E S r S' := by
  refine sy_MI_of RX12 pn_12 rfl (Nat.le_of_ble_eq_true rfl) (fun p e s m args below meth c A ls fx hr hlk hA X hl => ?_)
  have hx := fx.1
  have hb := fx.2.1
  have hown := fx.2.2.2.1
  have hts := fx.2.2.2.2
  have hl : lv_has ls 2 [(0, .ref (sy_ad E 392)), (1, .int p0)] := hl
  unfold m_Model_fails at h
  refine lv_aload_n hx hb dX12_fails_0 rfl (lv_at hl 0 rfl) ?_
  refine lv_iload_n hx hb dX12_fails_1 rfl (lv_at hl 1 rfl) ?_
  obtain ⟨S1, hS1, h⟩ := sy_b_e h
  refine sy_p11 fx X (sy_OModel_o ht) 7 (by decide) wm_328 (fun _ h9 => h9) rfl (ty := .int) (by decide +kernel) rfl rfl hS1 sy_s11_7 dX12_fails_2 (fun H locs X => ?_)
  refine lv_aload_n hx hb dX12_fails_5 rfl (lv_at hl 0 rfl) ?_
  refine lv_aload_n hx hb dX12_fails_6 rfl (lv_at hl 0 rfl) ?_
  refine sy_g11 fx X (sy_OModel_o ht) 3 (by decide) wm_346 (fun _ h9 => h9) rfl dX12_fails_7 ?_
  obtain ⟨S2, hS2, h⟩ := sy_b_e h
  refine sy_p11 fx X (sy_OModel_o ht) 6 (by decide) wm_167 (fun _ h9 => h9) rfl (ty := .int) (by decide +kernel) rfl rfl hS2 sy_s11_6 dX12_fails_10 (fun H locs X => ?_)
  refine lv_iconst (v := 0) hx hb dX12_fails_13 (by decide) ?_
  exact sy_zret fx X hr hlk (Or.inl rfl) h dX12_fails_14
def m_Model_isNumber_J27 (y1 : Int32) (y2 : Int32) (S : sy_St) : sy_R := if (S 392 4) = (-1) then (sy_c (m_Model_in (S 392 5) y1 y2 S) fun r16 S15 => if r16 = 0 then (sy_c (m_Model_fails 2 S15) fun r20 S19 => if r20 = 0 then (some (0, S19)) else (some (1, S19))) else (some (1, S15))) else (sy_c (m_Model_fails 2 S) fun r12 S11 => if r12 = 0 then (some (0, S11)) else (some (1, S11)))
def m_Model_isNumber (p0 : Int32) (p1 : Int32) (S : sy_St) : sy_R := sy_c (m_Model_nextToken S) fun r2 S1 => if (S1 392 4) = (-1) then (m_Model_isNumber_J27 p0 p1 S1) else (if (S1 392 4) = (-3) then (m_Model_isNumber_J27 p0 p1 S1) else (sy_c (m_Model_fails 1 S1) fun r7 S6 => sy_g (r7 = 0 ∨ r7 = 1) <| some (r7, S6)))
theorem cv_Model_isNumber : sy_cV RX12 yX12_isNumber cX12_isNumber 3 (some .boolean) 2 := ⟨wm_357, wm_358, wm_5, wm_359, by decide +kernel⟩
set_option maxRecDepth 100000 in
set_option maxHeartbeats 40000000 in
theorem c_Model_isNumber (l : Launch) {E : sy_ET} (ht : sy_OModel E) {p0 : Int32} {p1 : Int32} {S S' : sy_St} {r : Int32} (h : m_Model_isNumber p0 p1 S = some (r, S')) : sy_MI l yX12_isNumber cX12_isNumber 3 (some .boolean) 2 42 [.ref (sy_ad E 392), .int p0, .int p1] E S r S' := by
  refine sy_MI_of RX12 pn_12 rfl (Nat.le_of_ble_eq_true rfl) (fun p e s m args below meth c A ls fx hr hlk hA X hl => ?_)
  have hx := fx.1
  have hb := fx.2.1
  have hown := fx.2.2.2.1
  have hts := fx.2.2.2.2
  have hl : lv_has ls 3 [(0, .ref (sy_ad E 392)), (1, .int p0), (2, .int p1)] := hl
  have J_27 : ∀ (y1 y2 : Int32) (S : sy_St) (H : Heap) (locs : List Loc) (ls : Array Slot), sy_Wd E A s S H locs → lv_has ls 3 [(0, .ref (sy_ad E 392)), (1, .int y1), (2, .int y2)] → m_Model_isNumber_J27 y1 y2 S = some (r, S') → W p l e (sy_rm 2 42) s m args below meth c H locs 0 0 (MQ below (sy_Qi E A r S') args s 0 0 A) (F0 m 27 ls []) := by
    intro y1 y2 S H locs ls X hl h
    unfold m_Model_isNumber_J27 at h
    refine lv_aload_n hx hb dX12_isNumber_27 rfl (lv_at hl 0 rfl) ?_
    refine sy_g11 fx X (sy_OModel_o ht) 4 (by decide) wm_341 (fun _ h9 => h9) rfl dX12_isNumber_28 ?_
    refine lv_iconst (v := (-1)) hx hb dX12_isNumber_31 (by decide) ?_
    refine lv_icmp_ne (tgt := 47) hx hb dX12_isNumber_32 (by decide) (fun c10 => ?_) (fun c10 => ?_)
    · have h := sy_f c10 h
      refine lv_aload_n hx hb dX12_isNumber_47 rfl (lv_at hl 0 rfl) ?_
      refine lv_iconst (v := 2) hx hb dX12_isNumber_48 (by decide) ?_
      obtain ⟨r12, S11, hc13, h⟩ := sy_c_e h
      refine sy_vi (rest := []) fx hA X hl.1 (sy_OModel_o ht) (sy_en11 (sy_OModel_o ht).2) rfl (c_Model_fails l ht hc13) cv_Model_fails wm_352 ⟨Nat.le_of_ble_eq_true rfl, Nat.le_of_ble_eq_true rfl, Nat.le_refl _, Nat.le_refl _⟩ rfl rfl (Nat.le_of_ble_eq_true rfl) dX12_isNumber_49 (fun H locs X => ?_)
      refine lv_if_eq (tgt := 59) hx hb dX12_isNumber_52 (by decide) (fun c14 => ?_) (fun c14 => ?_)
      · have h := sy_t c14 h
        refine lv_iconst (v := 0) hx hb dX12_isNumber_59 (by decide) ?_
        exact sy_zret fx X hr hlk (Or.inl rfl) h dX12_isNumber_60
      · have h := sy_f c14 h
        refine lv_iconst (v := 1) hx hb dX12_isNumber_55 (by decide) ?_
        refine lv_goto (tgt := 60) hx hb dX12_isNumber_56 (by decide) ?_
        exact sy_zret fx X hr hlk (Or.inr rfl) h dX12_isNumber_60
    · have h := sy_t c10 h
      refine lv_aload_n hx hb dX12_isNumber_35 rfl (lv_at hl 0 rfl) ?_
      refine sy_g11 fx X (sy_OModel_o ht) 5 (by decide) wm_347 (fun _ h9 => h9) rfl dX12_isNumber_36 ?_
      refine lv_iload_n hx hb dX12_isNumber_39 rfl (lv_at hl 1 rfl) ?_
      refine lv_iload_n hx hb dX12_isNumber_40 rfl (lv_at hl 2 rfl) ?_
      obtain ⟨r16, S15, hc17, h⟩ := sy_c_e h
      refine sy_si (rest := []) fx hA X hl.1 (c_Model_in l hc17) cv_Model_in wm_211 ⟨Nat.le_of_ble_eq_true rfl, Nat.le_of_ble_eq_true rfl, Nat.le_refl _, Nat.le_refl _⟩ rfl rfl (Nat.le_of_ble_eq_true rfl) dX12_isNumber_41 (fun H locs X => ?_)
      refine lv_if_ne (tgt := 55) hx hb dX12_isNumber_44 (by decide) (fun c18 => ?_) (fun c18 => ?_)
      · have h := sy_f c18 h
        refine lv_iconst (v := 1) hx hb dX12_isNumber_55 (by decide) ?_
        refine lv_goto (tgt := 60) hx hb dX12_isNumber_56 (by decide) ?_
        exact sy_zret fx X hr hlk (Or.inr rfl) h dX12_isNumber_60
      · have h := sy_t c18 h
        refine lv_aload_n hx hb dX12_isNumber_47 rfl (lv_at hl 0 rfl) ?_
        refine lv_iconst (v := 2) hx hb dX12_isNumber_48 (by decide) ?_
        obtain ⟨r20, S19, hc21, h⟩ := sy_c_e h
        refine sy_vi (rest := []) fx hA X hl.1 (sy_OModel_o ht) (sy_en11 (sy_OModel_o ht).2) rfl (c_Model_fails l ht hc21) cv_Model_fails wm_352 ⟨Nat.le_of_ble_eq_true rfl, Nat.le_of_ble_eq_true rfl, Nat.le_refl _, Nat.le_refl _⟩ rfl rfl (Nat.le_of_ble_eq_true rfl) dX12_isNumber_49 (fun H locs X => ?_)
        refine lv_if_eq (tgt := 59) hx hb dX12_isNumber_52 (by decide) (fun c22 => ?_) (fun c22 => ?_)
        · have h := sy_t c22 h
          refine lv_iconst (v := 0) hx hb dX12_isNumber_59 (by decide) ?_
          exact sy_zret fx X hr hlk (Or.inl rfl) h dX12_isNumber_60
        · have h := sy_f c22 h
          refine lv_iconst (v := 1) hx hb dX12_isNumber_55 (by decide) ?_
          refine lv_goto (tgt := 60) hx hb dX12_isNumber_56 (by decide) ?_
          exact sy_zret fx X hr hlk (Or.inr rfl) h dX12_isNumber_60
  unfold m_Model_isNumber at h
  refine lv_aload_n hx hb dX12_isNumber_0 rfl (lv_at hl 0 rfl) ?_
  obtain ⟨r2, S1, hc3, h⟩ := sy_c_e h
  refine sy_vv (rest := []) fx hA X hl.1 (sy_OModel_o ht) (sy_en11 (sy_OModel_o ht).2) rfl (c_Model_nextToken l ht hc3) cv_Model_nextToken wm_342 ⟨Nat.le_of_ble_eq_true rfl, Nat.le_of_ble_eq_true rfl, Nat.le_refl _, Nat.le_refl _⟩ rfl rfl (Nat.le_of_ble_eq_true rfl) dX12_isNumber_1 (fun H locs X => ?_)
  refine lv_aload_n hx hb dX12_isNumber_4 rfl (lv_at hl 0 rfl) ?_
  refine sy_g11 fx X (sy_OModel_o ht) 4 (by decide) wm_341 (fun _ h9 => h9) rfl dX12_isNumber_5 ?_
  refine lv_iconst (v := (-1)) hx hb dX12_isNumber_8 (by decide) ?_
  refine lv_icmp_eq (tgt := 27) hx hb dX12_isNumber_9 (by decide) (fun c4 => ?_) (fun c4 => ?_)
  · have h := sy_t c4 h
    exact J_27 p0 p1 S1 _ _ _ X (lv_sub hl [0, 1, 2] rfl) h
  · have h := sy_f c4 h
    refine lv_aload_n hx hb dX12_isNumber_12 rfl (lv_at hl 0 rfl) ?_
    refine sy_g11 fx X (sy_OModel_o ht) 4 (by decide) wm_341 (fun _ h9 => h9) rfl dX12_isNumber_13 ?_
    refine lv_bipush (v := (-3)) hx hb dX12_isNumber_16 (by decide) ?_
    refine lv_icmp_eq (tgt := 27) hx hb dX12_isNumber_18 (by decide) (fun c5 => ?_) (fun c5 => ?_)
    · have h := sy_t c5 h
      exact J_27 p0 p1 S1 _ _ _ X (lv_sub hl [0, 1, 2] rfl) h
    · have h := sy_f c5 h
      refine lv_aload_n hx hb dX12_isNumber_21 rfl (lv_at hl 0 rfl) ?_
      refine lv_iconst (v := 1) hx hb dX12_isNumber_22 (by decide) ?_
      obtain ⟨r7, S6, hc8, h⟩ := sy_c_e h
      refine sy_vi (rest := []) fx hA X hl.1 (sy_OModel_o ht) (sy_en11 (sy_OModel_o ht).2) rfl (c_Model_fails l ht hc8) cv_Model_fails wm_352 ⟨Nat.le_of_ble_eq_true rfl, Nat.le_of_ble_eq_true rfl, Nat.le_refl _, Nat.le_refl _⟩ rfl rfl (Nat.le_of_ble_eq_true rfl) dX12_isNumber_23 (fun H locs X => ?_)
      obtain ⟨g9, h⟩ := sy_g_e h
      exact sy_zret fx X hr hlk g9 h dX12_isNumber_26
def m_Model_isWeightLine_B20 (kk20 : Int32 → sy_St → sy_R) (y1 : Int32) (S : sy_St) : sy_R := if y1 = 0 then (if (S 392 4) = 59 then (some (1, S)) else (sy_c (m_Model_fails 1 S) fun r10 S9 => if r10 = 0 then (some (0, S9)) else (some (1, S9)))) else (sy_c (m_Model_isNumber 0 30 S) fun r14 S13 => if r14 = 0 then (some (0, S13)) else (sy_g (sy_in (S13 392 8) 12) <| sy_b (sy_up S13 394 ((S13 392 8).toNatClampNeg) (S13 392 5)) fun S18 => sy_b (sy_up S18 392 8 ((S18 392 8) + 1)) fun S19 => sy_c (m_Model_nextToken S19) fun r21 S20 => if (S20 392 4) = 44 then (if 12 ≤ (S20 392 8) then (kk20 0 S20) else (kk20 1 S20)) else (kk20 0 S20)))
def m_Model_isWeightLine (S : sy_St) : sy_R := if (S 392 14) = 0 then (sy_b (sy_up S 392 14 1) fun S2 => sy_fix (fun _ _ => none) (m_Model_isWeightLine_B20) sy_F 1 S2) else (sy_c (m_Model_fails 3 S) fun r4 S3 => sy_g (r4 = 0 ∨ r4 = 1) <| some (r4, S3))
theorem cv_Model_isWeightLine : sy_cV RX12 yX12_isWeightLine cX12_isWeightLine 2 (some .boolean) 0 := ⟨wm_349, wm_350, wm_5, wm_351, by decide +kernel⟩
set_option maxRecDepth 100000 in
set_option maxHeartbeats 40000000 in
theorem c_Model_isWeightLine (l : Launch) {E : sy_ET} (ht : sy_OModel E) {S S' : sy_St} {r : Int32} (h : m_Model_isWeightLine S = some (r, S')) : sy_MI l yX12_isWeightLine cX12_isWeightLine 2 (some .boolean) 3 64 [.ref (sy_ad E 392)] E S r S' := by
  refine sy_MI_of RX12 pn_12 rfl (Nat.le_of_ble_eq_true rfl) (fun p e s m args below meth c A ls fx hr hlk hA X hl => ?_)
  have hx := fx.1
  have hb := fx.2.1
  have hown := fx.2.2.2.1
  have hts := fx.2.2.2.2
  have hl : lv_has ls 2 [(0, .ref (sy_ad E 392))] := hl
  have L_20 : ∀ (n20 : Nat) (y1 : Int32) (S : sy_St) (H : Heap) (locs : List Loc) (ls : Array Slot), sy_Wd E A s S H locs → lv_has ls 2 [(0, .ref (sy_ad E 392)), (1, .int y1)] → sy_fix (fun _ _ => none) (m_Model_isWeightLine_B20) n20 y1 S = some (r, S') → W p l e (sy_rm 3 64) s m args below meth c H locs 0 0 (MQ below (sy_Qi E A r S') args s 0 0 A) (F0 m 20 ls []) := by
    intro n20
    induction n20 with
    | zero => intro y1 S H locs ls X hl h; have h9 : (none : sy_R) = some (r, S') := h; cases h9
    | succ n20 ih20 =>
      intro y1 S H locs ls X hl h
      have h : m_Model_isWeightLine_B20 (sy_fix (fun _ _ => none) (m_Model_isWeightLine_B20) n20) y1 S = some (r, S') := h
      unfold m_Model_isWeightLine_B20 at h
      refine lv_iload_n hx hb dX12_isWeightLine_20 rfl (lv_at hl 1 rfl) ?_
      refine lv_if_eq (tgt := 90) hx hb dX12_isWeightLine_21 (by decide) (fun c7 => ?_) (fun c7 => ?_)
      · have h := sy_t c7 h
        refine lv_aload_n hx hb dX12_isWeightLine_90 rfl (lv_at hl 0 rfl) ?_
        refine sy_g11 fx X (sy_OModel_o ht) 4 (by decide) wm_341 (fun _ h9 => h9) rfl dX12_isWeightLine_91 ?_
        refine lv_bipush (v := 59) hx hb dX12_isWeightLine_94 (by decide) ?_
        refine lv_icmp_eq (tgt := 107) hx hb dX12_isWeightLine_96 (by decide) (fun c8 => ?_) (fun c8 => ?_)
        · have h := sy_t c8 h
          refine lv_iconst (v := 1) hx hb dX12_isWeightLine_107 (by decide) ?_
          refine lv_goto (tgt := 112) hx hb dX12_isWeightLine_108 (by decide) ?_
          exact sy_zret fx X hr hlk (Or.inr rfl) h dX12_isWeightLine_112
        · have h := sy_f c8 h
          refine lv_aload_n hx hb dX12_isWeightLine_99 rfl (lv_at hl 0 rfl) ?_
          refine lv_iconst (v := 1) hx hb dX12_isWeightLine_100 (by decide) ?_
          obtain ⟨r10, S9, hc11, h⟩ := sy_c_e h
          refine sy_vi (rest := []) fx hA X hl.1 (sy_OModel_o ht) (sy_en11 (sy_OModel_o ht).2) rfl (c_Model_fails l ht hc11) cv_Model_fails wm_352 ⟨Nat.le_of_ble_eq_true rfl, Nat.le_of_ble_eq_true rfl, Nat.le_refl _, Nat.le_refl _⟩ rfl rfl (Nat.le_of_ble_eq_true rfl) dX12_isWeightLine_101 (fun H locs X => ?_)
          refine lv_if_eq (tgt := 111) hx hb dX12_isWeightLine_104 (by decide) (fun c12 => ?_) (fun c12 => ?_)
          · have h := sy_t c12 h
            refine lv_iconst (v := 0) hx hb dX12_isWeightLine_111 (by decide) ?_
            exact sy_zret fx X hr hlk (Or.inl rfl) h dX12_isWeightLine_112
          · have h := sy_f c12 h
            refine lv_iconst (v := 1) hx hb dX12_isWeightLine_107 (by decide) ?_
            refine lv_goto (tgt := 112) hx hb dX12_isWeightLine_108 (by decide) ?_
            exact sy_zret fx X hr hlk (Or.inr rfl) h dX12_isWeightLine_112
      · have h := sy_f c7 h
        refine lv_aload_n hx hb dX12_isWeightLine_24 rfl (lv_at hl 0 rfl) ?_
        refine lv_iconst (v := 0) hx hb dX12_isWeightLine_25 (by decide) ?_
        refine lv_bipush (v := 30) hx hb dX12_isWeightLine_26 (by decide) ?_
        obtain ⟨r14, S13, hc15, h⟩ := sy_c_e h
        refine sy_vi (rest := []) fx hA X hl.1 (sy_OModel_o ht) (sy_en11 (sy_OModel_o ht).2) rfl (c_Model_isNumber l ht hc15) cv_Model_isNumber wm_356 ⟨Nat.le_of_ble_eq_true rfl, Nat.le_of_ble_eq_true rfl, Nat.le_refl _, Nat.le_refl _⟩ rfl rfl (Nat.le_of_ble_eq_true rfl) dX12_isWeightLine_28 (fun H locs X => ?_)
        refine lv_if_ne (tgt := 36) hx hb dX12_isWeightLine_31 (by decide) (fun c16 => ?_) (fun c16 => ?_)
        · have h := sy_f c16 h
          refine lv_aload_n hx hb dX12_isWeightLine_36 rfl (lv_at hl 0 rfl) ?_
          refine sy_q11 fx X (sy_OModel_o ht) 9 (by decide) wm_168 (fun _ h9 => h9) rfl (sy_OModel_r9 ht) dX12_isWeightLine_37 ?_
          refine lv_aload_n hx hb dX12_isWeightLine_40 rfl (lv_at hl 0 rfl) ?_
          refine sy_g11 fx X (sy_OModel_o ht) 8 (by decide) wm_329 (fun _ h9 => h9) rfl dX12_isWeightLine_41 ?_
          refine lv_aload_n hx hb dX12_isWeightLine_44 rfl (lv_at hl 0 rfl) ?_
          refine sy_g11 fx X (sy_OModel_o ht) 5 (by decide) wm_347 (fun _ h9 => h9) rfl dX12_isWeightLine_45 ?_
          obtain ⟨g17, h⟩ := sy_g_e h
          obtain ⟨S18, hS18, h⟩ := sy_b_e h
          refine sy_iast fx X (sy_OModel_a9 ht) g17 hS18 dX12_isWeightLine_48 (fun H locs X => ?_)
          refine lv_aload_n hx hb dX12_isWeightLine_49 rfl (lv_at hl 0 rfl) ?_
          refine lv_dup hx hb dX12_isWeightLine_50 rfl ?_
          refine sy_g11 fx X (sy_OModel_o ht) 8 (by decide) wm_329 (fun _ h9 => h9) rfl dX12_isWeightLine_51 ?_
          refine lv_iconst (v := 1) hx hb dX12_isWeightLine_54 (by decide) ?_
          refine lv_iadd hx hb dX12_isWeightLine_55 ?_
          obtain ⟨S19, hS19, h⟩ := sy_b_e h
          refine sy_p11 fx X (sy_OModel_o ht) 8 (by decide) wm_329 (fun _ h9 => h9) rfl (ty := .int) (by decide +kernel) rfl rfl hS19 sy_s11_8 dX12_isWeightLine_56 (fun H locs X => ?_)
          refine lv_aload_n hx hb dX12_isWeightLine_59 rfl (lv_at hl 0 rfl) ?_
          obtain ⟨r21, S20, hc22, h⟩ := sy_c_e h
          refine sy_vv (rest := []) fx hA X hl.1 (sy_OModel_o ht) (sy_en11 (sy_OModel_o ht).2) rfl (c_Model_nextToken l ht hc22) cv_Model_nextToken wm_342 ⟨Nat.le_of_ble_eq_true rfl, Nat.le_of_ble_eq_true rfl, Nat.le_refl _, Nat.le_refl _⟩ rfl rfl (Nat.le_of_ble_eq_true rfl) dX12_isWeightLine_60 (fun H locs X => ?_)
          refine lv_aload_n hx hb dX12_isWeightLine_63 rfl (lv_at hl 0 rfl) ?_
          refine sy_g11 fx X (sy_OModel_o ht) 4 (by decide) wm_341 (fun _ h9 => h9) rfl dX12_isWeightLine_64 ?_
          refine lv_bipush (v := 44) hx hb dX12_isWeightLine_67 (by decide) ?_
          refine lv_icmp_ne (tgt := 85) hx hb dX12_isWeightLine_69 (by decide) (fun c23 => ?_) (fun c23 => ?_)
          · have h := sy_f c23 h
            refine lv_iconst (v := 0) hx hb dX12_isWeightLine_85 (by decide) ?_
            refine lv_istore_n (lv' := [(1, .int 0), (0, .ref (sy_ad E 392))]) hx hb dX12_isWeightLine_86 rfl hl (by decide) rfl (fun ls hl => ?_)
            refine lv_goto (tgt := 20) hx hb dX12_isWeightLine_87 (by decide) ?_
            exact ih20 0 S20 _ _ _ X (lv_sub hl [1, 0] rfl) h
          · have h := sy_t c23 h
            refine lv_aload_n hx hb dX12_isWeightLine_72 rfl (lv_at hl 0 rfl) ?_
            refine sy_g11 fx X (sy_OModel_o ht) 8 (by decide) wm_329 (fun _ h9 => h9) rfl dX12_isWeightLine_73 ?_
            refine lv_bipush (v := 12) hx hb dX12_isWeightLine_76 (by decide) ?_
            refine lv_icmp_ge (tgt := 85) hx hb dX12_isWeightLine_78 (by decide) (fun c24 => ?_) (fun c24 => ?_)
            · have h := sy_t c24 h
              refine lv_iconst (v := 0) hx hb dX12_isWeightLine_85 (by decide) ?_
              refine lv_istore_n (lv' := [(1, .int 0), (0, .ref (sy_ad E 392))]) hx hb dX12_isWeightLine_86 rfl hl (by decide) rfl (fun ls hl => ?_)
              refine lv_goto (tgt := 20) hx hb dX12_isWeightLine_87 (by decide) ?_
              exact ih20 0 S20 _ _ _ X (lv_sub hl [1, 0] rfl) h
            · have h := sy_f c24 h
              refine lv_iconst (v := 1) hx hb dX12_isWeightLine_81 (by decide) ?_
              refine lv_goto (tgt := 86) hx hb dX12_isWeightLine_82 (by decide) ?_
              refine lv_istore_n (lv' := [(1, .int 1), (0, .ref (sy_ad E 392))]) hx hb dX12_isWeightLine_86 rfl hl (by decide) rfl (fun ls hl => ?_)
              refine lv_goto (tgt := 20) hx hb dX12_isWeightLine_87 (by decide) ?_
              exact ih20 1 S20 _ _ _ X (lv_sub hl [1, 0] rfl) h
        · have h := sy_t c16 h
          refine lv_iconst (v := 0) hx hb dX12_isWeightLine_34 (by decide) ?_
          exact sy_zret fx X hr hlk (Or.inl rfl) h dX12_isWeightLine_35
  unfold m_Model_isWeightLine at h
  refine lv_aload_n hx hb dX12_isWeightLine_0 rfl (lv_at hl 0 rfl) ?_
  refine sy_g11 fx X (sy_OModel_o ht) 14 (by decide) wm_338 (fun _ h9 => h9) rfl dX12_isWeightLine_1 ?_
  refine lv_if_eq (tgt := 13) hx hb dX12_isWeightLine_4 (by decide) (fun c1 => ?_) (fun c1 => ?_)
  · have h := sy_t c1 h
    refine lv_aload_n hx hb dX12_isWeightLine_13 rfl (lv_at hl 0 rfl) ?_
    refine lv_iconst (v := 1) hx hb dX12_isWeightLine_14 (by decide) ?_
    obtain ⟨S2, hS2, h⟩ := sy_b_e h
    refine sy_p11 fx X (sy_OModel_o ht) 14 (by decide) wm_338 (fun _ h9 => h9) rfl (ty := .boolean) (by decide +kernel) rfl rfl hS2 sy_s11_14 dX12_isWeightLine_15 (fun H locs X => ?_)
    refine lv_iconst (v := 1) hx hb dX12_isWeightLine_18 (by decide) ?_
    refine lv_istore_n (lv' := [(1, .int 1), (0, .ref (sy_ad E 392))]) hx hb dX12_isWeightLine_19 rfl hl (by decide) rfl (fun ls hl => ?_)
    exact L_20 sy_F 1 S2 _ _ _ X (lv_sub hl [1, 0] rfl) h
  · have h := sy_f c1 h
    refine lv_aload_n hx hb dX12_isWeightLine_7 rfl (lv_at hl 0 rfl) ?_
    refine lv_iconst (v := 3) hx hb dX12_isWeightLine_8 (by decide) ?_
    obtain ⟨r4, S3, hc5, h⟩ := sy_c_e h
    refine sy_vi (rest := []) fx hA X hl.1 (sy_OModel_o ht) (sy_en11 (sy_OModel_o ht).2) rfl (c_Model_fails l ht hc5) cv_Model_fails wm_352 ⟨Nat.le_of_ble_eq_true rfl, Nat.le_of_ble_eq_true rfl, Nat.le_refl _, Nat.le_refl _⟩ rfl rfl (Nat.le_of_ble_eq_true rfl) dX12_isWeightLine_9 (fun H locs X => ?_)
    obtain ⟨g6, h⟩ := sy_g_e h
    exact sy_zret fx X hr hlk g6 h dX12_isWeightLine_12
def m_Model_isEnd (S : sy_St) : sy_R := sy_c (m_Model_nextToken S) fun r2 S1 => if (S1 392 4) = 59 then (some (1, S1)) else (sy_c (m_Model_fails 1 S1) fun r6 S5 => if r6 = 0 then (some (0, S5)) else (some (1, S5)))
theorem cv_Model_isEnd : sy_cV RX12 yX12_isEnd cX12_isEnd 1 (some .boolean) 0 := ⟨wm_365, wm_366, wm_5, wm_367, by decide +kernel⟩
set_option maxRecDepth 100000 in
set_option maxHeartbeats 40000000 in
theorem c_Model_isEnd (l : Launch) {E : sy_ET} (ht : sy_OModel E) {S S' : sy_St} {r : Int32} (h : m_Model_isEnd S = some (r, S')) : sy_MI l yX12_isEnd cX12_isEnd 1 (some .boolean) 2 42 [.ref (sy_ad E 392)] E S r S' := by
  refine sy_MI_of RX12 pn_12 rfl (Nat.le_of_ble_eq_true rfl) (fun p e s m args below meth c A ls fx hr hlk hA X hl => ?_)
  have hx := fx.1
  have hb := fx.2.1
  have hown := fx.2.2.2.1
  have hts := fx.2.2.2.2
  have hl : lv_has ls 1 [(0, .ref (sy_ad E 392))] := hl
  unfold m_Model_isEnd at h
  refine lv_aload_n hx hb dX12_isEnd_0 rfl (lv_at hl 0 rfl) ?_
  obtain ⟨r2, S1, hc3, h⟩ := sy_c_e h
  refine sy_vv (rest := []) fx hA X hl.1 (sy_OModel_o ht) (sy_en11 (sy_OModel_o ht).2) rfl (c_Model_nextToken l ht hc3) cv_Model_nextToken wm_342 ⟨Nat.le_of_ble_eq_true rfl, Nat.le_of_ble_eq_true rfl, Nat.le_refl _, Nat.le_refl _⟩ rfl rfl (Nat.le_of_ble_eq_true rfl) dX12_isEnd_1 (fun H locs X => ?_)
  refine lv_aload_n hx hb dX12_isEnd_4 rfl (lv_at hl 0 rfl) ?_
  refine sy_g11 fx X (sy_OModel_o ht) 4 (by decide) wm_341 (fun _ h9 => h9) rfl dX12_isEnd_5 ?_
  refine lv_bipush (v := 59) hx hb dX12_isEnd_8 (by decide) ?_
  refine lv_icmp_eq (tgt := 21) hx hb dX12_isEnd_10 (by decide) (fun c4 => ?_) (fun c4 => ?_)
  · have h := sy_t c4 h
    refine lv_iconst (v := 1) hx hb dX12_isEnd_21 (by decide) ?_
    refine lv_goto (tgt := 26) hx hb dX12_isEnd_22 (by decide) ?_
    exact sy_zret fx X hr hlk (Or.inr rfl) h dX12_isEnd_26
  · have h := sy_f c4 h
    refine lv_aload_n hx hb dX12_isEnd_13 rfl (lv_at hl 0 rfl) ?_
    refine lv_iconst (v := 1) hx hb dX12_isEnd_14 (by decide) ?_
    obtain ⟨r6, S5, hc7, h⟩ := sy_c_e h
    refine sy_vi (rest := []) fx hA X hl.1 (sy_OModel_o ht) (sy_en11 (sy_OModel_o ht).2) rfl (c_Model_fails l ht hc7) cv_Model_fails wm_352 ⟨Nat.le_of_ble_eq_true rfl, Nat.le_of_ble_eq_true rfl, Nat.le_refl _, Nat.le_refl _⟩ rfl rfl (Nat.le_of_ble_eq_true rfl) dX12_isEnd_15 (fun H locs X => ?_)
    refine lv_if_eq (tgt := 25) hx hb dX12_isEnd_18 (by decide) (fun c8 => ?_) (fun c8 => ?_)
    · have h := sy_t c8 h
      refine lv_iconst (v := 0) hx hb dX12_isEnd_25 (by decide) ?_
      exact sy_zret fx X hr hlk (Or.inl rfl) h dX12_isEnd_26
    · have h := sy_f c8 h
      refine lv_iconst (v := 1) hx hb dX12_isEnd_21 (by decide) ?_
      refine lv_goto (tgt := 26) hx hb dX12_isEnd_22 (by decide) ?_
      exact sy_zret fx X hr hlk (Or.inr rfl) h dX12_isEnd_26
def m_Model_isPersonLine_J65 (kk24 : Int32 → Int32 → sy_St → sy_R) (y1 : Int32) (y2 : Int32) (t0 : Int32) (t1 : Int32) (S : sy_St) : sy_R := sy_c (m_Model_isNumber t0 t1 S) fun r23 S22 => if r23 = 0 then (some (0, S22)) else (sy_g (sy_in (y1 + y2) 30) <| sy_b (sy_up S22 395 ((y1 + y2).toNatClampNeg) (S22 392 5)) fun S27 => sy_b (y2 + 1 : Int32) fun x28 => kk24 y1 x28 S27)
def m_Model_isPersonLine_J45 (kk24 : Int32 → Int32 → sy_St → sy_R) (y1 : Int32) (y2 : Int32) (t0 : Int32) (S : sy_St) : sy_R := if y2 = 0 then (m_Model_isPersonLine_J65 kk24 y1 y2 t0 4 S) else (if y2 = 1 then (m_Model_isPersonLine_J65 kk24 y1 y2 t0 20 S) else (m_Model_isPersonLine_J65 kk24 y1 y2 t0 9 S))
def m_Model_isPersonLine_J40 (kk24 : Int32 → Int32 → sy_St → sy_R) (y1 : Int32) (y2 : Int32) (S : sy_St) : sy_R := m_Model_isPersonLine_J45 kk24 y1 y2 1 S
def m_Model_isPersonLine_J153 (t0 : Int32) (t1 : Int32) (S : sy_St) : sy_R := sy_g (sy_in t0 30) <| sy_b (sy_up S 395 t0.toNatClampNeg t1) fun S31 => sy_b (sy_up S31 392 10 ((S31 392 10) + 1)) fun S32 => sy_c (m_Model_isEnd S32) fun r34 S33 => sy_g (r34 = 0 ∨ r34 = 1) <| some (r34, S33)
def m_Model_isPersonLine_J129 (y1 : Int32) (S : sy_St) : sy_R := if (S 392 5) = 9 then (m_Model_isPersonLine_J153 (y1 + 4) (-1) S) else (m_Model_isPersonLine_J153 (y1 + 4) (S 392 5) S)
def m_Model_isPersonLine_B24 (kk24 : Int32 → Int32 → sy_St → sy_R) (y1 : Int32) (y2 : Int32) (S : sy_St) : sy_R := if 4 ≤ y2 then (sy_c (m_Model_isNumber 0 9 S) fun r9 S8 => if r9 = 0 then (some (0, S8)) else (if (S8 392 5) = 9 then (m_Model_isPersonLine_J129 y1 S8) else (if (S8 392 5) < (S8 392 10) then (m_Model_isPersonLine_J129 y1 S8) else (sy_c (m_Model_fails 2 S8) fun r15 S14 => sy_g (r15 = 0 ∨ r15 = 1) <| some (r15, S14))))) else (if y2 = 1 then (m_Model_isPersonLine_J40 kk24 y1 y2 S) else (if y2 = 2 then (m_Model_isPersonLine_J40 kk24 y1 y2 S) else (m_Model_isPersonLine_J45 kk24 y1 y2 0 S)))
def m_Model_isPersonLine (S : sy_St) : sy_R := if (S 392 10) = 6 then (sy_c (m_Model_fails 3 S) fun r4 S3 => sy_g (r4 = 0 ∨ r4 = 1) <| some (r4, S3)) else (sy_b (5 * (S 392 10) : Int32) fun x2 => sy_fix (fun _ _ _ => none) (m_Model_isPersonLine_B24) sy_F x2 0 S)
theorem cv_Model_isPersonLine : sy_cV RX12 yX12_isPersonLine cX12_isPersonLine 3 (some .boolean) 0 := ⟨wm_361, wm_362, wm_5, wm_363, by decide +kernel⟩
set_option maxRecDepth 100000 in
set_option maxHeartbeats 40000000 in
theorem c_Model_isPersonLine (l : Launch) {E : sy_ET} (ht : sy_OModel E) {S S' : sy_St} {r : Int32} (h : m_Model_isPersonLine S = some (r, S')) : sy_MI l yX12_isPersonLine cX12_isPersonLine 3 (some .boolean) 3 64 [.ref (sy_ad E 392)] E S r S' := by
  refine sy_MI_of RX12 pn_12 rfl (Nat.le_of_ble_eq_true rfl) (fun p e s m args below meth c A ls fx hr hlk hA X hl => ?_)
  have hx := fx.1
  have hb := fx.2.1
  have hown := fx.2.2.2.1
  have hts := fx.2.2.2.2
  have hl : lv_has ls 3 [(0, .ref (sy_ad E 392))] := hl
  have J_153 : ∀ (t0 t1 : Int32) (S : sy_St) (H : Heap) (locs : List Loc) (ls : Array Slot), sy_Wd E A s S H locs → lv_has ls 3 [(0, .ref (sy_ad E 392))] → m_Model_isPersonLine_J153 t0 t1 S = some (r, S') → W p l e (sy_rm 3 64) s m args below meth c H locs 0 0 (MQ below (sy_Qi E A r S') args s 0 0 A) (F0 m 153 ls [.int t1, .int t0, .ref (sy_ad E 395)]) := by
    intro t0 t1 S H locs ls X hl h
    unfold m_Model_isPersonLine_J153 at h
    obtain ⟨g30, h⟩ := sy_g_e h
    obtain ⟨S31, hS31, h⟩ := sy_b_e h
    refine sy_iast fx X (sy_OModel_a11 ht) g30 hS31 dX12_isPersonLine_153 (fun H locs X => ?_)
    refine lv_aload_n hx hb dX12_isPersonLine_154 rfl (lv_at hl 0 rfl) ?_
    refine lv_dup hx hb dX12_isPersonLine_155 rfl ?_
    refine sy_g11 fx X (sy_OModel_o ht) 10 (by decide) wm_331 (fun _ h9 => h9) rfl dX12_isPersonLine_156 ?_
    refine lv_iconst (v := 1) hx hb dX12_isPersonLine_159 (by decide) ?_
    refine lv_iadd hx hb dX12_isPersonLine_160 ?_
    obtain ⟨S32, hS32, h⟩ := sy_b_e h
    refine sy_p11 fx X (sy_OModel_o ht) 10 (by decide) wm_331 (fun _ h9 => h9) rfl (ty := .int) (by decide +kernel) rfl rfl hS32 sy_s11_10 dX12_isPersonLine_161 (fun H locs X => ?_)
    refine lv_aload_n hx hb dX12_isPersonLine_164 rfl (lv_at hl 0 rfl) ?_
    obtain ⟨r34, S33, hc35, h⟩ := sy_c_e h
    refine sy_vi (rest := []) fx hA X hl.1 (sy_OModel_o ht) (sy_en11 (sy_OModel_o ht).2) rfl (c_Model_isEnd l ht hc35) cv_Model_isEnd wm_364 ⟨Nat.le_of_ble_eq_true rfl, Nat.le_of_ble_eq_true rfl, Nat.le_refl _, Nat.le_refl _⟩ rfl rfl (Nat.le_of_ble_eq_true rfl) dX12_isPersonLine_165 (fun H locs X => ?_)
    obtain ⟨g36, h⟩ := sy_g_e h
    exact sy_zret fx X hr hlk g36 h dX12_isPersonLine_168
  have J_129 : ∀ (y1 : Int32) (S : sy_St) (H : Heap) (locs : List Loc) (ls : Array Slot), sy_Wd E A s S H locs → lv_has ls 3 [(0, .ref (sy_ad E 392)), (1, .int y1)] → m_Model_isPersonLine_J129 y1 S = some (r, S') → W p l e (sy_rm 3 64) s m args below meth c H locs 0 0 (MQ below (sy_Qi E A r S') args s 0 0 A) (F0 m 129 ls []) := by
    intro y1 S H locs ls X hl h
    unfold m_Model_isPersonLine_J129 at h
    refine lv_aload_n hx hb dX12_isPersonLine_129 rfl (lv_at hl 0 rfl) ?_
    refine sy_q11 fx X (sy_OModel_o ht) 11 (by decide) wm_169 (fun _ h9 => h9) rfl (sy_OModel_r11 ht) dX12_isPersonLine_130 ?_
    refine lv_iload_n hx hb dX12_isPersonLine_133 rfl (lv_at hl 1 rfl) ?_
    refine lv_iconst (v := 4) hx hb dX12_isPersonLine_134 (by decide) ?_
    refine lv_iadd hx hb dX12_isPersonLine_135 ?_
    refine lv_aload_n hx hb dX12_isPersonLine_136 rfl (lv_at hl 0 rfl) ?_
    refine sy_g11 fx X (sy_OModel_o ht) 5 (by decide) wm_347 (fun _ h9 => h9) rfl dX12_isPersonLine_137 ?_
    refine lv_bipush (v := 9) hx hb dX12_isPersonLine_140 (by decide) ?_
    refine lv_icmp_ne (tgt := 149) hx hb dX12_isPersonLine_142 (by decide) (fun c29 => ?_) (fun c29 => ?_)
    · have h := sy_f c29 h
      refine lv_aload_n hx hb dX12_isPersonLine_149 rfl (lv_at hl 0 rfl) ?_
      refine sy_g11 fx X (sy_OModel_o ht) 5 (by decide) wm_347 (fun _ h9 => h9) rfl dX12_isPersonLine_150 ?_
      exact J_153 (y1 + 4) (S 392 5) S _ _ _ X (lv_sub hl [0] rfl) h
    · have h := sy_t c29 h
      refine lv_iconst (v := (-1)) hx hb dX12_isPersonLine_145 (by decide) ?_
      refine lv_goto (tgt := 153) hx hb dX12_isPersonLine_146 (by decide) ?_
      exact J_153 (y1 + 4) (-1) S _ _ _ X (lv_sub hl [0] rfl) h
  have L_24 : ∀ (n24 : Nat) (y1 y2 : Int32) (S : sy_St) (H : Heap) (locs : List Loc) (ls : Array Slot), sy_Wd E A s S H locs → lv_has ls 3 [(0, .ref (sy_ad E 392)), (1, .int y1), (2, .int y2)] → sy_fix (fun _ _ _ => none) (m_Model_isPersonLine_B24) n24 y1 y2 S = some (r, S') → W p l e (sy_rm 3 64) s m args below meth c H locs 0 0 (MQ below (sy_Qi E A r S') args s 0 0 A) (F0 m 24 ls []) := by
    intro n24
    induction n24 with
    | zero => intro y1 y2 S H locs ls X hl h; have h9 : (none : sy_R) = some (r, S') := h; cases h9
    | succ n24 ih24 =>
      have J_65 : ∀ (y1 y2 t0 t1 : Int32) (S : sy_St) (H : Heap) (locs : List Loc) (ls : Array Slot), sy_Wd E A s S H locs → lv_has ls 3 [(0, .ref (sy_ad E 392)), (1, .int y1), (2, .int y2)] → m_Model_isPersonLine_J65 (sy_fix (fun _ _ _ => none) (m_Model_isPersonLine_B24) n24) y1 y2 t0 t1 S = some (r, S') → W p l e (sy_rm 3 64) s m args below meth c H locs 0 0 (MQ below (sy_Qi E A r S') args s 0 0 A) (F0 m 65 ls [.int t1, .int t0, .ref (sy_ad E 392)]) := by
        intro y1 y2 t0 t1 S H locs ls X hl h
        unfold m_Model_isPersonLine_J65 at h
        obtain ⟨r23, S22, hc24, h⟩ := sy_c_e h
        refine sy_vi (rest := []) fx hA X hl.1 (sy_OModel_o ht) (sy_en11 (sy_OModel_o ht).2) rfl (c_Model_isNumber l ht hc24) cv_Model_isNumber wm_356 ⟨Nat.le_of_ble_eq_true rfl, Nat.le_of_ble_eq_true rfl, Nat.le_refl _, Nat.le_refl _⟩ rfl rfl (Nat.le_of_ble_eq_true rfl) dX12_isPersonLine_65 (fun H locs X => ?_)
        refine lv_if_ne (tgt := 73) hx hb dX12_isPersonLine_68 (by decide) (fun c25 => ?_) (fun c25 => ?_)
        · have h := sy_f c25 h
          refine lv_aload_n hx hb dX12_isPersonLine_73 rfl (lv_at hl 0 rfl) ?_
          refine sy_q11 fx X (sy_OModel_o ht) 11 (by decide) wm_169 (fun _ h9 => h9) rfl (sy_OModel_r11 ht) dX12_isPersonLine_74 ?_
          refine lv_iload_n hx hb dX12_isPersonLine_77 rfl (lv_at hl 1 rfl) ?_
          refine lv_iload_n hx hb dX12_isPersonLine_78 rfl (lv_at hl 2 rfl) ?_
          refine lv_iadd hx hb dX12_isPersonLine_79 ?_
          refine lv_aload_n hx hb dX12_isPersonLine_80 rfl (lv_at hl 0 rfl) ?_
          refine sy_g11 fx X (sy_OModel_o ht) 5 (by decide) wm_347 (fun _ h9 => h9) rfl dX12_isPersonLine_81 ?_
          obtain ⟨g26, h⟩ := sy_g_e h
          obtain ⟨S27, hS27, h⟩ := sy_b_e h
          refine sy_iast fx X (sy_OModel_a11 ht) g26 hS27 dX12_isPersonLine_84 (fun H locs X => ?_)
          obtain ⟨x28, hx28, h⟩ := sy_b_e h
          refine lv_iinc (v := x28) (lv' := [(2, .int x28), (0, .ref (sy_ad E 392)), (1, .int y1)]) hx hb dX12_isPersonLine_85 hl (k := 2) rfl (by rw [hx28]; rfl) (by decide) rfl (fun ls hl => ?_)
          refine lv_goto (tgt := 24) hx hb dX12_isPersonLine_88 (by decide) ?_
          exact ih24 y1 x28 S27 _ _ _ X (lv_sub hl [1, 2, 0] rfl) h
        · have h := sy_t c25 h
          refine lv_iconst (v := 0) hx hb dX12_isPersonLine_71 (by decide) ?_
          exact sy_zret fx X hr hlk (Or.inl rfl) h dX12_isPersonLine_72
      have J_45 : ∀ (y1 y2 t0 : Int32) (S : sy_St) (H : Heap) (locs : List Loc) (ls : Array Slot), sy_Wd E A s S H locs → lv_has ls 3 [(0, .ref (sy_ad E 392)), (1, .int y1), (2, .int y2)] → m_Model_isPersonLine_J45 (sy_fix (fun _ _ _ => none) (m_Model_isPersonLine_B24) n24) y1 y2 t0 S = some (r, S') → W p l e (sy_rm 3 64) s m args below meth c H locs 0 0 (MQ below (sy_Qi E A r S') args s 0 0 A) (F0 m 45 ls [.int t0, .ref (sy_ad E 392)]) := by
        intro y1 y2 t0 S H locs ls X hl h
        unfold m_Model_isPersonLine_J45 at h
        refine lv_iload_n hx hb dX12_isPersonLine_45 rfl (lv_at hl 2 rfl) ?_
        refine lv_if_ne (tgt := 53) hx hb dX12_isPersonLine_46 (by decide) (fun c20 => ?_) (fun c20 => ?_)
        · have h := sy_f c20 h
          refine lv_iload_n hx hb dX12_isPersonLine_53 rfl (lv_at hl 2 rfl) ?_
          refine lv_iconst (v := 1) hx hb dX12_isPersonLine_54 (by decide) ?_
          refine lv_icmp_ne (tgt := 63) hx hb dX12_isPersonLine_55 (by decide) (fun c21 => ?_) (fun c21 => ?_)
          · have h := sy_f c21 h
            refine lv_bipush (v := 9) hx hb dX12_isPersonLine_63 (by decide) ?_
            exact J_65 y1 y2 t0 9 S _ _ _ X (lv_sub hl [0, 1, 2] rfl) h
          · have h := sy_t c21 h
            refine lv_bipush (v := 20) hx hb dX12_isPersonLine_58 (by decide) ?_
            refine lv_goto (tgt := 65) hx hb dX12_isPersonLine_60 (by decide) ?_
            exact J_65 y1 y2 t0 20 S _ _ _ X (lv_sub hl [0, 1, 2] rfl) h
        · have h := sy_t c20 h
          refine lv_iconst (v := 4) hx hb dX12_isPersonLine_49 (by decide) ?_
          refine lv_goto (tgt := 65) hx hb dX12_isPersonLine_50 (by decide) ?_
          exact J_65 y1 y2 t0 4 S _ _ _ X (lv_sub hl [0, 1, 2] rfl) h
      have J_40 : ∀ (y1 y2 : Int32) (S : sy_St) (H : Heap) (locs : List Loc) (ls : Array Slot), sy_Wd E A s S H locs → lv_has ls 3 [(0, .ref (sy_ad E 392)), (1, .int y1), (2, .int y2)] → m_Model_isPersonLine_J40 (sy_fix (fun _ _ _ => none) (m_Model_isPersonLine_B24) n24) y1 y2 S = some (r, S') → W p l e (sy_rm 3 64) s m args below meth c H locs 0 0 (MQ below (sy_Qi E A r S') args s 0 0 A) (F0 m 40 ls [.ref (sy_ad E 392)]) := by
        intro y1 y2 S H locs ls X hl h
        unfold m_Model_isPersonLine_J40 at h
        refine lv_iconst (v := 1) hx hb dX12_isPersonLine_40 (by decide) ?_
        refine lv_goto (tgt := 45) hx hb dX12_isPersonLine_41 (by decide) ?_
        exact J_45 y1 y2 1 S _ _ _ X (lv_sub hl [0, 1, 2] rfl) h
      intro y1 y2 S H locs ls X hl h
      have h : m_Model_isPersonLine_B24 (sy_fix (fun _ _ _ => none) (m_Model_isPersonLine_B24) n24) y1 y2 S = some (r, S') := h
      unfold m_Model_isPersonLine_B24 at h
      refine lv_iload_n hx hb dX12_isPersonLine_24 rfl (lv_at hl 2 rfl) ?_
      refine lv_iconst (v := 4) hx hb dX12_isPersonLine_25 (by decide) ?_
      refine lv_icmp_ge (tgt := 91) hx hb dX12_isPersonLine_26 (by decide) (fun c7 => ?_) (fun c7 => ?_)
      · have h := sy_t c7 h
        refine lv_aload_n hx hb dX12_isPersonLine_91 rfl (lv_at hl 0 rfl) ?_
        refine lv_iconst (v := 0) hx hb dX12_isPersonLine_92 (by decide) ?_
        refine lv_bipush (v := 9) hx hb dX12_isPersonLine_93 (by decide) ?_
        obtain ⟨r9, S8, hc10, h⟩ := sy_c_e h
        refine sy_vi (rest := []) fx hA X hl.1 (sy_OModel_o ht) (sy_en11 (sy_OModel_o ht).2) rfl (c_Model_isNumber l ht hc10) cv_Model_isNumber wm_356 ⟨Nat.le_of_ble_eq_true rfl, Nat.le_of_ble_eq_true rfl, Nat.le_refl _, Nat.le_refl _⟩ rfl rfl (Nat.le_of_ble_eq_true rfl) dX12_isPersonLine_95 (fun H locs X => ?_)
        refine lv_if_ne (tgt := 103) hx hb dX12_isPersonLine_98 (by decide) (fun c11 => ?_) (fun c11 => ?_)
        · have h := sy_f c11 h
          refine lv_aload_n hx hb dX12_isPersonLine_103 rfl (lv_at hl 0 rfl) ?_
          refine sy_g11 fx X (sy_OModel_o ht) 5 (by decide) wm_347 (fun _ h9 => h9) rfl dX12_isPersonLine_104 ?_
          refine lv_bipush (v := 9) hx hb dX12_isPersonLine_107 (by decide) ?_
          refine lv_icmp_eq (tgt := 129) hx hb dX12_isPersonLine_109 (by decide) (fun c12 => ?_) (fun c12 => ?_)
          · have h := sy_t c12 h
            exact J_129 y1 S8 _ _ _ X (lv_sub hl [0, 1] rfl) h
          · have h := sy_f c12 h
            refine lv_aload_n hx hb dX12_isPersonLine_112 rfl (lv_at hl 0 rfl) ?_
            refine sy_g11 fx X (sy_OModel_o ht) 5 (by decide) wm_347 (fun _ h9 => h9) rfl dX12_isPersonLine_113 ?_
            refine lv_aload_n hx hb dX12_isPersonLine_116 rfl (lv_at hl 0 rfl) ?_
            refine sy_g11 fx X (sy_OModel_o ht) 10 (by decide) wm_331 (fun _ h9 => h9) rfl dX12_isPersonLine_117 ?_
            refine lv_icmp_lt (tgt := 129) hx hb dX12_isPersonLine_120 (by decide) (fun c13 => ?_) (fun c13 => ?_)
            · have h := sy_t c13 h
              exact J_129 y1 S8 _ _ _ X (lv_sub hl [0, 1] rfl) h
            · have h := sy_f c13 h
              refine lv_aload_n hx hb dX12_isPersonLine_123 rfl (lv_at hl 0 rfl) ?_
              refine lv_iconst (v := 2) hx hb dX12_isPersonLine_124 (by decide) ?_
              obtain ⟨r15, S14, hc16, h⟩ := sy_c_e h
              refine sy_vi (rest := []) fx hA X hl.1 (sy_OModel_o ht) (sy_en11 (sy_OModel_o ht).2) rfl (c_Model_fails l ht hc16) cv_Model_fails wm_352 ⟨Nat.le_of_ble_eq_true rfl, Nat.le_of_ble_eq_true rfl, Nat.le_refl _, Nat.le_refl _⟩ rfl rfl (Nat.le_of_ble_eq_true rfl) dX12_isPersonLine_125 (fun H locs X => ?_)
              obtain ⟨g17, h⟩ := sy_g_e h
              exact sy_zret fx X hr hlk g17 h dX12_isPersonLine_128
        · have h := sy_t c11 h
          refine lv_iconst (v := 0) hx hb dX12_isPersonLine_101 (by decide) ?_
          exact sy_zret fx X hr hlk (Or.inl rfl) h dX12_isPersonLine_102
      · have h := sy_f c7 h
        refine lv_aload_n hx hb dX12_isPersonLine_29 rfl (lv_at hl 0 rfl) ?_
        refine lv_iload_n hx hb dX12_isPersonLine_30 rfl (lv_at hl 2 rfl) ?_
        refine lv_iconst (v := 1) hx hb dX12_isPersonLine_31 (by decide) ?_
        refine lv_icmp_eq (tgt := 40) hx hb dX12_isPersonLine_32 (by decide) (fun c18 => ?_) (fun c18 => ?_)
        · have h := sy_t c18 h
          exact J_40 y1 y2 S _ _ _ X (lv_sub hl [0, 1, 2] rfl) h
        · have h := sy_f c18 h
          refine lv_iload_n hx hb dX12_isPersonLine_35 rfl (lv_at hl 2 rfl) ?_
          refine lv_iconst (v := 2) hx hb dX12_isPersonLine_36 (by decide) ?_
          refine lv_icmp_ne (tgt := 44) hx hb dX12_isPersonLine_37 (by decide) (fun c19 => ?_) (fun c19 => ?_)
          · have h := sy_f c19 h
            refine lv_iconst (v := 0) hx hb dX12_isPersonLine_44 (by decide) ?_
            exact J_45 y1 y2 0 S _ _ _ X (lv_sub hl [0, 1, 2] rfl) h
          · have h := sy_t c19 h
            exact J_40 y1 y2 S _ _ _ X (lv_sub hl [0, 1, 2] rfl) h
  unfold m_Model_isPersonLine at h
  refine lv_aload_n hx hb dX12_isPersonLine_0 rfl (lv_at hl 0 rfl) ?_
  refine sy_g11 fx X (sy_OModel_o ht) 10 (by decide) wm_331 (fun _ h9 => h9) rfl dX12_isPersonLine_1 ?_
  refine lv_bipush (v := 6) hx hb dX12_isPersonLine_4 (by decide) ?_
  refine lv_icmp_ne (tgt := 15) hx hb dX12_isPersonLine_6 (by decide) (fun c1 => ?_) (fun c1 => ?_)
  · have h := sy_f c1 h
    refine lv_iconst (v := 5) hx hb dX12_isPersonLine_15 (by decide) ?_
    refine lv_aload_n hx hb dX12_isPersonLine_16 rfl (lv_at hl 0 rfl) ?_
    refine sy_g11 fx X (sy_OModel_o ht) 10 (by decide) wm_331 (fun _ h9 => h9) rfl dX12_isPersonLine_17 ?_
    refine lv_imul hx hb dX12_isPersonLine_20 ?_
    obtain ⟨x2, hx2, h⟩ := sy_b_e h
    refine sy_top hx2 ?_
    refine lv_istore_n (lv' := [(1, .int x2), (0, .ref (sy_ad E 392))]) hx hb dX12_isPersonLine_21 rfl hl (by decide) rfl (fun ls hl => ?_)
    refine lv_iconst (v := 0) hx hb dX12_isPersonLine_22 (by decide) ?_
    refine lv_istore_n (lv' := [(2, .int 0), (1, .int x2), (0, .ref (sy_ad E 392))]) hx hb dX12_isPersonLine_23 rfl hl (by decide) rfl (fun ls hl => ?_)
    exact L_24 sy_F x2 0 S _ _ _ X (lv_sub hl [2, 1, 0] rfl) h
  · have h := sy_t c1 h
    refine lv_aload_n hx hb dX12_isPersonLine_9 rfl (lv_at hl 0 rfl) ?_
    refine lv_iconst (v := 3) hx hb dX12_isPersonLine_10 (by decide) ?_
    obtain ⟨r4, S3, hc5, h⟩ := sy_c_e h
    refine sy_vi (rest := []) fx hA X hl.1 (sy_OModel_o ht) (sy_en11 (sy_OModel_o ht).2) rfl (c_Model_fails l ht hc5) cv_Model_fails wm_352 ⟨Nat.le_of_ble_eq_true rfl, Nat.le_of_ble_eq_true rfl, Nat.le_refl _, Nat.le_refl _⟩ rfl rfl (Nat.le_of_ble_eq_true rfl) dX12_isPersonLine_11 (fun H locs X => ?_)
    obtain ⟨g6, h⟩ := sy_g_e h
    exact sy_zret fx X hr hlk g6 h dX12_isPersonLine_14
def m_Model_isWordLine_B20 (kk20 : Int32 → sy_St → sy_R) (y1 : Int32) (S : sy_St) : sy_R := if 3 ≤ y1 then (sy_c (m_Model_isEnd S) fun r9 S8 => sy_g (r9 = 0 ∨ r9 = 1) <| some (r9, S8)) else (sy_c (m_Model_isNumber 0 9 S) fun r13 S12 => if r13 = 0 then (some (0, S12)) else (sy_g (sy_in y1 3) <| sy_b (sy_up S12 396 y1.toNatClampNeg (S12 392 5)) fun S17 => sy_b (y1 + 1 : Int32) fun x18 => kk20 x18 S17))
def m_Model_isWordLine (S : sy_St) : sy_R := if (S 392 15) = 0 then (sy_b (sy_up S 392 15 1) fun S2 => sy_fix (fun _ _ => none) (m_Model_isWordLine_B20) sy_F 0 S2) else (sy_c (m_Model_fails 3 S) fun r4 S3 => sy_g (r4 = 0 ∨ r4 = 1) <| some (r4, S3))
theorem cv_Model_isWordLine : sy_cV RX12 yX12_isWordLine cX12_isWordLine 2 (some .boolean) 0 := ⟨wm_369, wm_370, wm_5, wm_371, by decide +kernel⟩
set_option maxRecDepth 100000 in
set_option maxHeartbeats 40000000 in
theorem c_Model_isWordLine (l : Launch) {E : sy_ET} (ht : sy_OModel E) {S S' : sy_St} {r : Int32} (h : m_Model_isWordLine S = some (r, S')) : sy_MI l yX12_isWordLine cX12_isWordLine 2 (some .boolean) 3 64 [.ref (sy_ad E 392)] E S r S' := by
  refine sy_MI_of RX12 pn_12 rfl (Nat.le_of_ble_eq_true rfl) (fun p e s m args below meth c A ls fx hr hlk hA X hl => ?_)
  have hx := fx.1
  have hb := fx.2.1
  have hown := fx.2.2.2.1
  have hts := fx.2.2.2.2
  have hl : lv_has ls 2 [(0, .ref (sy_ad E 392))] := hl
  have L_20 : ∀ (n20 : Nat) (y1 : Int32) (S : sy_St) (H : Heap) (locs : List Loc) (ls : Array Slot), sy_Wd E A s S H locs → lv_has ls 2 [(0, .ref (sy_ad E 392)), (1, .int y1)] → sy_fix (fun _ _ => none) (m_Model_isWordLine_B20) n20 y1 S = some (r, S') → W p l e (sy_rm 3 64) s m args below meth c H locs 0 0 (MQ below (sy_Qi E A r S') args s 0 0 A) (F0 m 20 ls []) := by
    intro n20
    induction n20 with
    | zero => intro y1 S H locs ls X hl h; have h9 : (none : sy_R) = some (r, S') := h; cases h9
    | succ n20 ih20 =>
      intro y1 S H locs ls X hl h
      have h : m_Model_isWordLine_B20 (sy_fix (fun _ _ => none) (m_Model_isWordLine_B20) n20) y1 S = some (r, S') := h
      unfold m_Model_isWordLine_B20 at h
      refine lv_iload_n hx hb dX12_isWordLine_20 rfl (lv_at hl 1 rfl) ?_
      refine lv_iconst (v := 3) hx hb dX12_isWordLine_21 (by decide) ?_
      refine lv_icmp_ge (tgt := 53) hx hb dX12_isWordLine_22 (by decide) (fun c7 => ?_) (fun c7 => ?_)
      · have h := sy_t c7 h
        refine lv_aload_n hx hb dX12_isWordLine_53 rfl (lv_at hl 0 rfl) ?_
        obtain ⟨r9, S8, hc10, h⟩ := sy_c_e h
        refine sy_vi (rest := []) fx hA X hl.1 (sy_OModel_o ht) (sy_en11 (sy_OModel_o ht).2) rfl (c_Model_isEnd l ht hc10) cv_Model_isEnd wm_364 ⟨Nat.le_of_ble_eq_true rfl, Nat.le_of_ble_eq_true rfl, Nat.le_refl _, Nat.le_refl _⟩ rfl rfl (Nat.le_of_ble_eq_true rfl) dX12_isWordLine_54 (fun H locs X => ?_)
        obtain ⟨g11, h⟩ := sy_g_e h
        exact sy_zret fx X hr hlk g11 h dX12_isWordLine_57
      · have h := sy_f c7 h
        refine lv_aload_n hx hb dX12_isWordLine_25 rfl (lv_at hl 0 rfl) ?_
        refine lv_iconst (v := 0) hx hb dX12_isWordLine_26 (by decide) ?_
        refine lv_bipush (v := 9) hx hb dX12_isWordLine_27 (by decide) ?_
        obtain ⟨r13, S12, hc14, h⟩ := sy_c_e h
        refine sy_vi (rest := []) fx hA X hl.1 (sy_OModel_o ht) (sy_en11 (sy_OModel_o ht).2) rfl (c_Model_isNumber l ht hc14) cv_Model_isNumber wm_356 ⟨Nat.le_of_ble_eq_true rfl, Nat.le_of_ble_eq_true rfl, Nat.le_refl _, Nat.le_refl _⟩ rfl rfl (Nat.le_of_ble_eq_true rfl) dX12_isWordLine_29 (fun H locs X => ?_)
        refine lv_if_ne (tgt := 37) hx hb dX12_isWordLine_32 (by decide) (fun c15 => ?_) (fun c15 => ?_)
        · have h := sy_f c15 h
          refine lv_aload_n hx hb dX12_isWordLine_37 rfl (lv_at hl 0 rfl) ?_
          refine sy_q11 fx X (sy_OModel_o ht) 12 (by decide) wm_170 (fun _ h9 => h9) rfl (sy_OModel_r12 ht) dX12_isWordLine_38 ?_
          refine lv_iload_n hx hb dX12_isWordLine_41 rfl (lv_at hl 1 rfl) ?_
          refine lv_aload_n hx hb dX12_isWordLine_42 rfl (lv_at hl 0 rfl) ?_
          refine sy_g11 fx X (sy_OModel_o ht) 5 (by decide) wm_347 (fun _ h9 => h9) rfl dX12_isWordLine_43 ?_
          obtain ⟨g16, h⟩ := sy_g_e h
          obtain ⟨S17, hS17, h⟩ := sy_b_e h
          refine sy_iast fx X (sy_OModel_a12 ht) g16 hS17 dX12_isWordLine_46 (fun H locs X => ?_)
          obtain ⟨x18, hx18, h⟩ := sy_b_e h
          refine lv_iinc (v := x18) (lv' := [(1, .int x18), (0, .ref (sy_ad E 392))]) hx hb dX12_isWordLine_47 hl (k := 1) rfl (by rw [hx18]; rfl) (by decide) rfl (fun ls hl => ?_)
          refine lv_goto (tgt := 20) hx hb dX12_isWordLine_50 (by decide) ?_
          exact ih20 x18 S17 _ _ _ X (lv_sub hl [1, 0] rfl) h
        · have h := sy_t c15 h
          refine lv_iconst (v := 0) hx hb dX12_isWordLine_35 (by decide) ?_
          exact sy_zret fx X hr hlk (Or.inl rfl) h dX12_isWordLine_36
  unfold m_Model_isWordLine at h
  refine lv_aload_n hx hb dX12_isWordLine_0 rfl (lv_at hl 0 rfl) ?_
  refine sy_g11 fx X (sy_OModel_o ht) 15 (by decide) wm_339 (fun _ h9 => h9) rfl dX12_isWordLine_1 ?_
  refine lv_if_eq (tgt := 13) hx hb dX12_isWordLine_4 (by decide) (fun c1 => ?_) (fun c1 => ?_)
  · have h := sy_t c1 h
    refine lv_aload_n hx hb dX12_isWordLine_13 rfl (lv_at hl 0 rfl) ?_
    refine lv_iconst (v := 1) hx hb dX12_isWordLine_14 (by decide) ?_
    obtain ⟨S2, hS2, h⟩ := sy_b_e h
    refine sy_p11 fx X (sy_OModel_o ht) 15 (by decide) wm_339 (fun _ h9 => h9) rfl (ty := .boolean) (by decide +kernel) rfl rfl hS2 sy_s11_15 dX12_isWordLine_15 (fun H locs X => ?_)
    refine lv_iconst (v := 0) hx hb dX12_isWordLine_18 (by decide) ?_
    refine lv_istore_n (lv' := [(1, .int 0), (0, .ref (sy_ad E 392))]) hx hb dX12_isWordLine_19 rfl hl (by decide) rfl (fun ls hl => ?_)
    exact L_20 sy_F 0 S2 _ _ _ X (lv_sub hl [1, 0] rfl) h
  · have h := sy_f c1 h
    refine lv_aload_n hx hb dX12_isWordLine_7 rfl (lv_at hl 0 rfl) ?_
    refine lv_iconst (v := 3) hx hb dX12_isWordLine_8 (by decide) ?_
    obtain ⟨r4, S3, hc5, h⟩ := sy_c_e h
    refine sy_vi (rest := []) fx hA X hl.1 (sy_OModel_o ht) (sy_en11 (sy_OModel_o ht).2) rfl (c_Model_fails l ht hc5) cv_Model_fails wm_352 ⟨Nat.le_of_ble_eq_true rfl, Nat.le_of_ble_eq_true rfl, Nat.le_refl _, Nat.le_refl _⟩ rfl rfl (Nat.le_of_ble_eq_true rfl) dX12_isWordLine_9 (fun H locs X => ?_)
    obtain ⟨g6, h⟩ := sy_g_e h
    exact sy_zret fx X hr hlk g6 h dX12_isWordLine_12
def m_Model_isFruitLine (S : sy_St) : sy_R := if (S 392 16) = 0 then (sy_b (sy_up S 392 16 1) fun S2 => sy_c (m_Model_isNumber 0 99 S2) fun r4 S3 => if r4 = 0 then (some (0, S3)) else (sy_b (sy_up S3 392 13 (S3 392 5)) fun S7 => sy_c (m_Model_isEnd S7) fun r9 S8 => sy_g (r9 = 0 ∨ r9 = 1) <| some (r9, S8))) else (sy_c (m_Model_fails 3 S) fun r13 S12 => sy_g (r13 = 0 ∨ r13 = 1) <| some (r13, S12))
theorem cv_Model_isFruitLine : sy_cV RX12 yX12_isFruitLine cX12_isFruitLine 1 (some .boolean) 0 := ⟨wm_373, wm_374, wm_5, wm_375, by decide +kernel⟩
set_option maxRecDepth 100000 in
set_option maxHeartbeats 40000000 in
theorem c_Model_isFruitLine (l : Launch) {E : sy_ET} (ht : sy_OModel E) {S S' : sy_St} {r : Int32} (h : m_Model_isFruitLine S = some (r, S')) : sy_MI l yX12_isFruitLine cX12_isFruitLine 1 (some .boolean) 3 64 [.ref (sy_ad E 392)] E S r S' := by
  refine sy_MI_of RX12 pn_12 rfl (Nat.le_of_ble_eq_true rfl) (fun p e s m args below meth c A ls fx hr hlk hA X hl => ?_)
  have hx := fx.1
  have hb := fx.2.1
  have hown := fx.2.2.2.1
  have hts := fx.2.2.2.2
  have hl : lv_has ls 1 [(0, .ref (sy_ad E 392))] := hl
  unfold m_Model_isFruitLine at h
  refine lv_aload_n hx hb dX12_isFruitLine_0 rfl (lv_at hl 0 rfl) ?_
  refine sy_g11 fx X (sy_OModel_o ht) 16 (by decide) wm_340 (fun _ h9 => h9) rfl dX12_isFruitLine_1 ?_
  refine lv_if_eq (tgt := 13) hx hb dX12_isFruitLine_4 (by decide) (fun c1 => ?_) (fun c1 => ?_)
  · have h := sy_t c1 h
    refine lv_aload_n hx hb dX12_isFruitLine_13 rfl (lv_at hl 0 rfl) ?_
    refine lv_iconst (v := 1) hx hb dX12_isFruitLine_14 (by decide) ?_
    obtain ⟨S2, hS2, h⟩ := sy_b_e h
    refine sy_p11 fx X (sy_OModel_o ht) 16 (by decide) wm_340 (fun _ h9 => h9) rfl (ty := .boolean) (by decide +kernel) rfl rfl hS2 sy_s11_16 dX12_isFruitLine_15 (fun H locs X => ?_)
    refine lv_aload_n hx hb dX12_isFruitLine_18 rfl (lv_at hl 0 rfl) ?_
    refine lv_iconst (v := 0) hx hb dX12_isFruitLine_19 (by decide) ?_
    refine lv_bipush (v := 99) hx hb dX12_isFruitLine_20 (by decide) ?_
    obtain ⟨r4, S3, hc5, h⟩ := sy_c_e h
    refine sy_vi (rest := []) fx hA X hl.1 (sy_OModel_o ht) (sy_en11 (sy_OModel_o ht).2) rfl (c_Model_isNumber l ht hc5) cv_Model_isNumber wm_356 ⟨Nat.le_of_ble_eq_true rfl, Nat.le_of_ble_eq_true rfl, Nat.le_refl _, Nat.le_refl _⟩ rfl rfl (Nat.le_of_ble_eq_true rfl) dX12_isFruitLine_22 (fun H locs X => ?_)
    refine lv_if_ne (tgt := 30) hx hb dX12_isFruitLine_25 (by decide) (fun c6 => ?_) (fun c6 => ?_)
    · have h := sy_f c6 h
      refine lv_aload_n hx hb dX12_isFruitLine_30 rfl (lv_at hl 0 rfl) ?_
      refine lv_aload_n hx hb dX12_isFruitLine_31 rfl (lv_at hl 0 rfl) ?_
      refine sy_g11 fx X (sy_OModel_o ht) 5 (by decide) wm_347 (fun _ h9 => h9) rfl dX12_isFruitLine_32 ?_
      obtain ⟨S7, hS7, h⟩ := sy_b_e h
      refine sy_p11 fx X (sy_OModel_o ht) 13 (by decide) wm_332 (fun _ h9 => h9) rfl (ty := .int) (by decide +kernel) rfl rfl hS7 sy_s11_13 dX12_isFruitLine_35 (fun H locs X => ?_)
      refine lv_aload_n hx hb dX12_isFruitLine_38 rfl (lv_at hl 0 rfl) ?_
      obtain ⟨r9, S8, hc10, h⟩ := sy_c_e h
      refine sy_vi (rest := []) fx hA X hl.1 (sy_OModel_o ht) (sy_en11 (sy_OModel_o ht).2) rfl (c_Model_isEnd l ht hc10) cv_Model_isEnd wm_364 ⟨Nat.le_of_ble_eq_true rfl, Nat.le_of_ble_eq_true rfl, Nat.le_refl _, Nat.le_refl _⟩ rfl rfl (Nat.le_of_ble_eq_true rfl) dX12_isFruitLine_39 (fun H locs X => ?_)
      obtain ⟨g11, h⟩ := sy_g_e h
      exact sy_zret fx X hr hlk g11 h dX12_isFruitLine_42
    · have h := sy_t c6 h
      refine lv_iconst (v := 0) hx hb dX12_isFruitLine_28 (by decide) ?_
      exact sy_zret fx X hr hlk (Or.inl rfl) h dX12_isFruitLine_29
  · have h := sy_f c1 h
    refine lv_aload_n hx hb dX12_isFruitLine_7 rfl (lv_at hl 0 rfl) ?_
    refine lv_iconst (v := 3) hx hb dX12_isFruitLine_8 (by decide) ?_
    obtain ⟨r13, S12, hc14, h⟩ := sy_c_e h
    refine sy_vi (rest := []) fx hA X hl.1 (sy_OModel_o ht) (sy_en11 (sy_OModel_o ht).2) rfl (c_Model_fails l ht hc14) cv_Model_fails wm_352 ⟨Nat.le_of_ble_eq_true rfl, Nat.le_of_ble_eq_true rfl, Nat.le_refl _, Nat.le_refl _⟩ rfl rfl (Nat.le_of_ble_eq_true rfl) dX12_isFruitLine_9 (fun H locs X => ?_)
    obtain ⟨g15, h⟩ := sy_g_e h
    exact sy_zret fx X hr hlk g15 h dX12_isFruitLine_12
