def m_Model_isRead_J149 (kk62 : Int32 → sy_St → sy_R) (S : sy_St) : sy_R := if (S 392 14) = 0 then (sy_c (m_Model_fails 1 S) fun r34 S33 => kk62 r34 S33) else (if (S 392 4) = 102 then (sy_c (m_Model_isFruitLine S) fun r41 S40 => kk62 r41 S40) else (sy_c (m_Model_fails 1 S) fun r38 S37 => kk62 r38 S37))
def m_Model_isRead_J125 (kk62 : Int32 → sy_St → sy_R) (S : sy_St) : sy_R := if (S 392 14) = 0 then (m_Model_isRead_J149 kk62 S) else (if (S 392 4) = 116 then (sy_c (m_Model_isWordLine S) fun r30 S29 => kk62 r30 S29) else (m_Model_isRead_J149 kk62 S))
def m_Model_isRead_B62 (kk62 : Int32 → sy_St → sy_R) (y1 : Int32) (S : sy_St) : sy_R := if y1 = 0 then (if (S 392 6) = (-1) then (some (1, S)) else (some (0, S))) else (sy_c (m_Model_nextToken S) fun r15 S14 => if (S14 392 4) = (-2) then (kk62 0 S14) else (if (S14 392 4) = 119 then (sy_c (m_Model_isWeightLine S14) fun r25 S24 => kk62 r25 S24) else (if (S14 392 14) = 0 then (m_Model_isRead_J125 kk62 S14) else (if (S14 392 4) = 112 then (sy_c (m_Model_isPersonLine S14) fun r22 S21 => kk62 r22 S21) else (m_Model_isRead_J125 kk62 S14)))))
def m_Model_isRead_B38 (kk38 : Int32 → sy_St → sy_R) (y1 : Int32) (S : sy_St) : sy_R := if 3 ≤ y1 then (sy_fix (fun _ _ => none) (m_Model_isRead_B62) sy_F 1 S) else (sy_g (sy_in y1 3) <| sy_b (sy_up S 396 y1.toNatClampNeg (3 + (2 * y1))) fun S10 => sy_b (y1 + 1 : Int32) fun x11 => kk38 x11 S10)
def m_Model_isRead (S : sy_St) : sy_R := sy_b (sy_up S 392 2 0) fun S1 => sy_b (sy_up S1 392 8 0) fun S2 => sy_b (sy_up S2 392 10 0) fun S3 => sy_b (sy_up S3 392 13 9) fun S4 => sy_b (sy_up S4 392 14 0) fun S5 => sy_b (sy_up S5 392 15 0) fun S6 => sy_b (sy_up S6 392 16 0) fun S7 => sy_fix (fun _ _ => none) (m_Model_isRead_B38) sy_F 0 S7
theorem cv_Model_isRead : sy_cV RX12 yX12_isRead cX12_isRead 2 (some .boolean) 0 := ⟨wm_334, wm_335, wm_5, wm_336, by decide +kernel⟩
set_option maxRecDepth 100000 in
set_option maxHeartbeats 40000000 in
theorem c_Model_isRead (l : Launch) {E : sy_ET} (ht : sy_OModel E) {S S' : sy_St} {r : Int32} (h : m_Model_isRead S = some (r, S')) : sy_MI l yX12_isRead cX12_isRead 2 (some .boolean) 4 86 [.ref (sy_ad E 392)] E S r S' := by
  refine sy_MI_of RX12 pn_12 rfl (Nat.le_of_ble_eq_true rfl) (fun p e s m args below meth c A ls fx hr hlk hA X hl => ?_)
  have hx := fx.1
  have hb := fx.2.1
  have hown := fx.2.2.2.1
  have hts := fx.2.2.2.2
  have hl : lv_has ls 2 [(0, .ref (sy_ad E 392))] := hl
  have L_62 : ∀ (n62 : Nat) (y1 : Int32) (S : sy_St) (H : Heap) (locs : List Loc) (ls : Array Slot), sy_Wd E A s S H locs → lv_has ls 2 [(0, .ref (sy_ad E 392)), (1, .int y1)] → sy_fix (fun _ _ => none) (m_Model_isRead_B62) n62 y1 S = some (r, S') → W p l e (sy_rm 4 86) s m args below meth c H locs 0 0 (MQ below (sy_Qi E A r S') args s 0 0 A) (F0 m 62 ls []) := by
    intro n62
    induction n62 with
    | zero => intro y1 S H locs ls X hl h; have h9 : (none : sy_R) = some (r, S') := h; cases h9
    | succ n62 ih62 =>
      have J_149 : ∀ (S : sy_St) (H : Heap) (locs : List Loc) (ls : Array Slot), sy_Wd E A s S H locs → lv_has ls 2 [(0, .ref (sy_ad E 392))] → m_Model_isRead_J149 (sy_fix (fun _ _ => none) (m_Model_isRead_B62) n62) S = some (r, S') → W p l e (sy_rm 4 86) s m args below meth c H locs 0 0 (MQ below (sy_Qi E A r S') args s 0 0 A) (F0 m 149 ls []) := by
        intro  S H locs ls X hl h
        unfold m_Model_isRead_J149 at h
        refine lv_aload_n hx hb dX12_isRead_149 rfl (lv_at hl 0 rfl) ?_
        refine sy_g11 fx X (sy_OModel_o ht) 14 (by decide) wm_338 (fun _ h9 => h9) rfl dX12_isRead_150 ?_
        refine lv_if_eq (tgt := 173) hx hb dX12_isRead_153 (by decide) (fun c32 => ?_) (fun c32 => ?_)
        · have h := sy_t c32 h
          refine lv_aload_n hx hb dX12_isRead_173 rfl (lv_at hl 0 rfl) ?_
          refine lv_iconst (v := 1) hx hb dX12_isRead_174 (by decide) ?_
          obtain ⟨r34, S33, hc35, h⟩ := sy_c_e h
          refine sy_vi (rest := []) fx hA X hl.1 (sy_OModel_o ht) (sy_en11 (sy_OModel_o ht).2) rfl (c_Model_fails l ht hc35) cv_Model_fails wm_352 ⟨Nat.le_of_ble_eq_true rfl, Nat.le_of_ble_eq_true rfl, Nat.le_refl _, Nat.le_refl _⟩ rfl rfl (Nat.le_of_ble_eq_true rfl) dX12_isRead_175 (fun H locs X => ?_)
          refine lv_istore_n (lv' := [(1, .int r34), (0, .ref (sy_ad E 392))]) hx hb dX12_isRead_178 rfl hl (by decide) rfl (fun ls hl => ?_)
          refine lv_goto (tgt := 62) hx hb dX12_isRead_179 (by decide) ?_
          exact ih62 r34 S33 _ _ _ X (lv_sub hl [1, 0] rfl) h
        · have h := sy_f c32 h
          refine lv_aload_n hx hb dX12_isRead_156 rfl (lv_at hl 0 rfl) ?_
          refine sy_g11 fx X (sy_OModel_o ht) 4 (by decide) wm_341 (fun _ h9 => h9) rfl dX12_isRead_157 ?_
          refine lv_bipush (v := 102) hx hb dX12_isRead_160 (by decide) ?_
          refine lv_icmp_ne (tgt := 173) hx hb dX12_isRead_162 (by decide) (fun c36 => ?_) (fun c36 => ?_)
          · have h := sy_f c36 h
            refine lv_aload_n hx hb dX12_isRead_173 rfl (lv_at hl 0 rfl) ?_
            refine lv_iconst (v := 1) hx hb dX12_isRead_174 (by decide) ?_
            obtain ⟨r38, S37, hc39, h⟩ := sy_c_e h
            refine sy_vi (rest := []) fx hA X hl.1 (sy_OModel_o ht) (sy_en11 (sy_OModel_o ht).2) rfl (c_Model_fails l ht hc39) cv_Model_fails wm_352 ⟨Nat.le_of_ble_eq_true rfl, Nat.le_of_ble_eq_true rfl, Nat.le_refl _, Nat.le_refl _⟩ rfl rfl (Nat.le_of_ble_eq_true rfl) dX12_isRead_175 (fun H locs X => ?_)
            refine lv_istore_n (lv' := [(1, .int r38), (0, .ref (sy_ad E 392))]) hx hb dX12_isRead_178 rfl hl (by decide) rfl (fun ls hl => ?_)
            refine lv_goto (tgt := 62) hx hb dX12_isRead_179 (by decide) ?_
            exact ih62 r38 S37 _ _ _ X (lv_sub hl [1, 0] rfl) h
          · have h := sy_t c36 h
            refine lv_aload_n hx hb dX12_isRead_165 rfl (lv_at hl 0 rfl) ?_
            obtain ⟨r41, S40, hc42, h⟩ := sy_c_e h
            refine sy_vi (rest := []) fx hA X hl.1 (sy_OModel_o ht) (sy_en11 (sy_OModel_o ht).2) rfl (c_Model_isFruitLine l ht hc42) cv_Model_isFruitLine wm_372 ⟨Nat.le_of_ble_eq_true rfl, Nat.le_of_ble_eq_true rfl, Nat.le_refl _, Nat.le_refl _⟩ rfl rfl (Nat.le_of_ble_eq_true rfl) dX12_isRead_166 (fun H locs X => ?_)
            refine lv_istore_n (lv' := [(1, .int r41), (0, .ref (sy_ad E 392))]) hx hb dX12_isRead_169 rfl hl (by decide) rfl (fun ls hl => ?_)
            refine lv_goto (tgt := 62) hx hb dX12_isRead_170 (by decide) ?_
            exact ih62 r41 S40 _ _ _ X (lv_sub hl [1, 0] rfl) h
      have J_125 : ∀ (S : sy_St) (H : Heap) (locs : List Loc) (ls : Array Slot), sy_Wd E A s S H locs → lv_has ls 2 [(0, .ref (sy_ad E 392))] → m_Model_isRead_J125 (sy_fix (fun _ _ => none) (m_Model_isRead_B62) n62) S = some (r, S') → W p l e (sy_rm 4 86) s m args below meth c H locs 0 0 (MQ below (sy_Qi E A r S') args s 0 0 A) (F0 m 125 ls []) := by
        intro  S H locs ls X hl h
        unfold m_Model_isRead_J125 at h
        refine lv_aload_n hx hb dX12_isRead_125 rfl (lv_at hl 0 rfl) ?_
        refine sy_g11 fx X (sy_OModel_o ht) 14 (by decide) wm_338 (fun _ h9 => h9) rfl dX12_isRead_126 ?_
        refine lv_if_eq (tgt := 149) hx hb dX12_isRead_129 (by decide) (fun c27 => ?_) (fun c27 => ?_)
        · have h := sy_t c27 h
          exact J_149 S _ _ _ X (lv_sub hl [0] rfl) h
        · have h := sy_f c27 h
          refine lv_aload_n hx hb dX12_isRead_132 rfl (lv_at hl 0 rfl) ?_
          refine sy_g11 fx X (sy_OModel_o ht) 4 (by decide) wm_341 (fun _ h9 => h9) rfl dX12_isRead_133 ?_
          refine lv_bipush (v := 116) hx hb dX12_isRead_136 (by decide) ?_
          refine lv_icmp_ne (tgt := 149) hx hb dX12_isRead_138 (by decide) (fun c28 => ?_) (fun c28 => ?_)
          · have h := sy_f c28 h
            exact J_149 S _ _ _ X (lv_sub hl [0] rfl) h
          · have h := sy_t c28 h
            refine lv_aload_n hx hb dX12_isRead_141 rfl (lv_at hl 0 rfl) ?_
            obtain ⟨r30, S29, hc31, h⟩ := sy_c_e h
            refine sy_vi (rest := []) fx hA X hl.1 (sy_OModel_o ht) (sy_en11 (sy_OModel_o ht).2) rfl (c_Model_isWordLine l ht hc31) cv_Model_isWordLine wm_368 ⟨Nat.le_of_ble_eq_true rfl, Nat.le_of_ble_eq_true rfl, Nat.le_refl _, Nat.le_refl _⟩ rfl rfl (Nat.le_of_ble_eq_true rfl) dX12_isRead_142 (fun H locs X => ?_)
            refine lv_istore_n (lv' := [(1, .int r30), (0, .ref (sy_ad E 392))]) hx hb dX12_isRead_145 rfl hl (by decide) rfl (fun ls hl => ?_)
            refine lv_goto (tgt := 62) hx hb dX12_isRead_146 (by decide) ?_
            exact ih62 r30 S29 _ _ _ X (lv_sub hl [1, 0] rfl) h
      intro y1 S H locs ls X hl h
      have h : m_Model_isRead_B62 (sy_fix (fun _ _ => none) (m_Model_isRead_B62) n62) y1 S = some (r, S') := h
      unfold m_Model_isRead_B62 at h
      refine lv_iload_n hx hb dX12_isRead_62 rfl (lv_at hl 1 rfl) ?_
      refine lv_if_eq (tgt := 182) hx hb dX12_isRead_63 (by decide) (fun c12 => ?_) (fun c12 => ?_)
      · have h := sy_t c12 h
        refine lv_aload_n hx hb dX12_isRead_182 rfl (lv_at hl 0 rfl) ?_
        refine sy_g11 fx X (sy_OModel_o ht) 6 (by decide) wm_167 (fun _ h9 => h9) rfl dX12_isRead_183 ?_
        refine lv_iconst (v := (-1)) hx hb dX12_isRead_186 (by decide) ?_
        refine lv_icmp_ne (tgt := 194) hx hb dX12_isRead_187 (by decide) (fun c13 => ?_) (fun c13 => ?_)
        · have h := sy_f c13 h
          refine lv_iconst (v := 0) hx hb dX12_isRead_194 (by decide) ?_
          exact sy_zret fx X hr hlk (Or.inl rfl) h dX12_isRead_195
        · have h := sy_t c13 h
          refine lv_iconst (v := 1) hx hb dX12_isRead_190 (by decide) ?_
          refine lv_goto (tgt := 195) hx hb dX12_isRead_191 (by decide) ?_
          exact sy_zret fx X hr hlk (Or.inr rfl) h dX12_isRead_195
      · have h := sy_f c12 h
        refine lv_aload_n hx hb dX12_isRead_66 rfl (lv_at hl 0 rfl) ?_
        obtain ⟨r15, S14, hc16, h⟩ := sy_c_e h
        refine sy_vv (rest := []) fx hA X hl.1 (sy_OModel_o ht) (sy_en11 (sy_OModel_o ht).2) rfl (c_Model_nextToken l ht hc16) cv_Model_nextToken wm_342 ⟨Nat.le_of_ble_eq_true rfl, Nat.le_of_ble_eq_true rfl, Nat.le_refl _, Nat.le_refl _⟩ rfl rfl (Nat.le_of_ble_eq_true rfl) dX12_isRead_67 (fun H locs X => ?_)
        refine lv_aload_n hx hb dX12_isRead_70 rfl (lv_at hl 0 rfl) ?_
        refine sy_g11 fx X (sy_OModel_o ht) 4 (by decide) wm_341 (fun _ h9 => h9) rfl dX12_isRead_71 ?_
        refine lv_bipush (v := (-2)) hx hb dX12_isRead_74 (by decide) ?_
        refine lv_icmp_ne (tgt := 84) hx hb dX12_isRead_76 (by decide) (fun c17 => ?_) (fun c17 => ?_)
        · have h := sy_f c17 h
          refine lv_aload_n hx hb dX12_isRead_84 rfl (lv_at hl 0 rfl) ?_
          refine sy_g11 fx X (sy_OModel_o ht) 4 (by decide) wm_341 (fun _ h9 => h9) rfl dX12_isRead_85 ?_
          refine lv_bipush (v := 119) hx hb dX12_isRead_88 (by decide) ?_
          refine lv_icmp_ne (tgt := 101) hx hb dX12_isRead_90 (by decide) (fun c18 => ?_) (fun c18 => ?_)
          · have h := sy_f c18 h
            refine lv_aload_n hx hb dX12_isRead_101 rfl (lv_at hl 0 rfl) ?_
            refine sy_g11 fx X (sy_OModel_o ht) 14 (by decide) wm_338 (fun _ h9 => h9) rfl dX12_isRead_102 ?_
            refine lv_if_eq (tgt := 125) hx hb dX12_isRead_105 (by decide) (fun c19 => ?_) (fun c19 => ?_)
            · have h := sy_t c19 h
              exact J_125 S14 _ _ _ X (lv_sub hl [0] rfl) h
            · have h := sy_f c19 h
              refine lv_aload_n hx hb dX12_isRead_108 rfl (lv_at hl 0 rfl) ?_
              refine sy_g11 fx X (sy_OModel_o ht) 4 (by decide) wm_341 (fun _ h9 => h9) rfl dX12_isRead_109 ?_
              refine lv_bipush (v := 112) hx hb dX12_isRead_112 (by decide) ?_
              refine lv_icmp_ne (tgt := 125) hx hb dX12_isRead_114 (by decide) (fun c20 => ?_) (fun c20 => ?_)
              · have h := sy_f c20 h
                exact J_125 S14 _ _ _ X (lv_sub hl [0] rfl) h
              · have h := sy_t c20 h
                refine lv_aload_n hx hb dX12_isRead_117 rfl (lv_at hl 0 rfl) ?_
                obtain ⟨r22, S21, hc23, h⟩ := sy_c_e h
                refine sy_vi (rest := []) fx hA X hl.1 (sy_OModel_o ht) (sy_en11 (sy_OModel_o ht).2) rfl (c_Model_isPersonLine l ht hc23) cv_Model_isPersonLine wm_360 ⟨Nat.le_of_ble_eq_true rfl, Nat.le_of_ble_eq_true rfl, Nat.le_refl _, Nat.le_refl _⟩ rfl rfl (Nat.le_of_ble_eq_true rfl) dX12_isRead_118 (fun H locs X => ?_)
                refine lv_istore_n (lv' := [(1, .int r22), (0, .ref (sy_ad E 392))]) hx hb dX12_isRead_121 rfl hl (by decide) rfl (fun ls hl => ?_)
                refine lv_goto (tgt := 62) hx hb dX12_isRead_122 (by decide) ?_
                exact ih62 r22 S21 _ _ _ X (lv_sub hl [1, 0] rfl) h
          · have h := sy_t c18 h
            refine lv_aload_n hx hb dX12_isRead_93 rfl (lv_at hl 0 rfl) ?_
            obtain ⟨r25, S24, hc26, h⟩ := sy_c_e h
            refine sy_vi (rest := []) fx hA X hl.1 (sy_OModel_o ht) (sy_en11 (sy_OModel_o ht).2) rfl (c_Model_isWeightLine l ht hc26) cv_Model_isWeightLine wm_348 ⟨Nat.le_of_ble_eq_true rfl, Nat.le_of_ble_eq_true rfl, Nat.le_refl _, Nat.le_refl _⟩ rfl rfl (Nat.le_of_ble_eq_true rfl) dX12_isRead_94 (fun H locs X => ?_)
            refine lv_istore_n (lv' := [(1, .int r25), (0, .ref (sy_ad E 392))]) hx hb dX12_isRead_97 rfl hl (by decide) rfl (fun ls hl => ?_)
            refine lv_goto (tgt := 62) hx hb dX12_isRead_98 (by decide) ?_
            exact ih62 r25 S24 _ _ _ X (lv_sub hl [1, 0] rfl) h
        · have h := sy_t c17 h
          refine lv_iconst (v := 0) hx hb dX12_isRead_79 (by decide) ?_
          refine lv_istore_n (lv' := [(1, .int 0), (0, .ref (sy_ad E 392))]) hx hb dX12_isRead_80 rfl hl (by decide) rfl (fun ls hl => ?_)
          refine lv_goto (tgt := 62) hx hb dX12_isRead_81 (by decide) ?_
          exact ih62 0 S14 _ _ _ X (lv_sub hl [1, 0] rfl) h
  have L_38 : ∀ (n38 : Nat) (y1 : Int32) (S : sy_St) (H : Heap) (locs : List Loc) (ls : Array Slot), sy_Wd E A s S H locs → lv_has ls 2 [(0, .ref (sy_ad E 392)), (1, .int y1)] → sy_fix (fun _ _ => none) (m_Model_isRead_B38) n38 y1 S = some (r, S') → W p l e (sy_rm 4 86) s m args below meth c H locs 0 0 (MQ below (sy_Qi E A r S') args s 0 0 A) (F0 m 38 ls []) := by
    intro n38
    induction n38 with
    | zero => intro y1 S H locs ls X hl h; have h9 : (none : sy_R) = some (r, S') := h; cases h9
    | succ n38 ih38 =>
      intro y1 S H locs ls X hl h
      have h : m_Model_isRead_B38 (sy_fix (fun _ _ => none) (m_Model_isRead_B38) n38) y1 S = some (r, S') := h
      unfold m_Model_isRead_B38 at h
      refine lv_iload_n hx hb dX12_isRead_38 rfl (lv_at hl 1 rfl) ?_
      refine lv_iconst (v := 3) hx hb dX12_isRead_39 (by decide) ?_
      refine lv_icmp_ge (tgt := 60) hx hb dX12_isRead_40 (by decide) (fun c8 => ?_) (fun c8 => ?_)
      · have h := sy_t c8 h
        refine lv_iconst (v := 1) hx hb dX12_isRead_60 (by decide) ?_
        refine lv_istore_n (lv' := [(1, .int 1), (0, .ref (sy_ad E 392))]) hx hb dX12_isRead_61 rfl hl (by decide) rfl (fun ls hl => ?_)
        exact L_62 sy_F 1 S _ _ _ X (lv_sub hl [1, 0] rfl) h
      · have h := sy_f c8 h
        refine lv_aload_n hx hb dX12_isRead_43 rfl (lv_at hl 0 rfl) ?_
        refine sy_q11 fx X (sy_OModel_o ht) 12 (by decide) wm_170 (fun _ h9 => h9) rfl (sy_OModel_r12 ht) dX12_isRead_44 ?_
        refine lv_iload_n hx hb dX12_isRead_47 rfl (lv_at hl 1 rfl) ?_
        refine lv_iconst (v := 3) hx hb dX12_isRead_48 (by decide) ?_
        refine lv_iconst (v := 2) hx hb dX12_isRead_49 (by decide) ?_
        refine lv_iload_n hx hb dX12_isRead_50 rfl (lv_at hl 1 rfl) ?_
        refine lv_imul hx hb dX12_isRead_51 ?_
        refine lv_iadd hx hb dX12_isRead_52 ?_
        obtain ⟨g9, h⟩ := sy_g_e h
        obtain ⟨S10, hS10, h⟩ := sy_b_e h
        refine sy_iast fx X (sy_OModel_a12 ht) g9 hS10 dX12_isRead_53 (fun H locs X => ?_)
        obtain ⟨x11, hx11, h⟩ := sy_b_e h
        refine lv_iinc (v := x11) (lv' := [(1, .int x11), (0, .ref (sy_ad E 392))]) hx hb dX12_isRead_54 hl (k := 1) rfl (by rw [hx11]; rfl) (by decide) rfl (fun ls hl => ?_)
        refine lv_goto (tgt := 38) hx hb dX12_isRead_57 (by decide) ?_
        exact ih38 x11 S10 _ _ _ X (lv_sub hl [1, 0] rfl) h
  unfold m_Model_isRead at h
  refine lv_aload_n hx hb dX12_isRead_0 rfl (lv_at hl 0 rfl) ?_
  refine lv_iconst (v := 0) hx hb dX12_isRead_1 (by decide) ?_
  obtain ⟨S1, hS1, h⟩ := sy_b_e h
  refine sy_p11 fx X (sy_OModel_o ht) 2 (by decide) wm_337 (fun _ h9 => h9) rfl (ty := .int) (by decide +kernel) rfl rfl hS1 sy_s11_2 dX12_isRead_2 (fun H locs X => ?_)
  refine lv_aload_n hx hb dX12_isRead_5 rfl (lv_at hl 0 rfl) ?_
  refine lv_iconst (v := 0) hx hb dX12_isRead_6 (by decide) ?_
  obtain ⟨S2, hS2, h⟩ := sy_b_e h
  refine sy_p11 fx X (sy_OModel_o ht) 8 (by decide) wm_329 (fun _ h9 => h9) rfl (ty := .int) (by decide +kernel) rfl rfl hS2 sy_s11_8 dX12_isRead_7 (fun H locs X => ?_)
  refine lv_aload_n hx hb dX12_isRead_10 rfl (lv_at hl 0 rfl) ?_
  refine lv_iconst (v := 0) hx hb dX12_isRead_11 (by decide) ?_
  obtain ⟨S3, hS3, h⟩ := sy_b_e h
  refine sy_p11 fx X (sy_OModel_o ht) 10 (by decide) wm_331 (fun _ h9 => h9) rfl (ty := .int) (by decide +kernel) rfl rfl hS3 sy_s11_10 dX12_isRead_12 (fun H locs X => ?_)
  refine lv_aload_n hx hb dX12_isRead_15 rfl (lv_at hl 0 rfl) ?_
  refine lv_bipush (v := 9) hx hb dX12_isRead_16 (by decide) ?_
  obtain ⟨S4, hS4, h⟩ := sy_b_e h
  refine sy_p11 fx X (sy_OModel_o ht) 13 (by decide) wm_332 (fun _ h9 => h9) rfl (ty := .int) (by decide +kernel) rfl rfl hS4 sy_s11_13 dX12_isRead_18 (fun H locs X => ?_)
  refine lv_aload_n hx hb dX12_isRead_21 rfl (lv_at hl 0 rfl) ?_
  refine lv_iconst (v := 0) hx hb dX12_isRead_22 (by decide) ?_
  obtain ⟨S5, hS5, h⟩ := sy_b_e h
  refine sy_p11 fx X (sy_OModel_o ht) 14 (by decide) wm_338 (fun _ h9 => h9) rfl (ty := .boolean) (by decide +kernel) rfl rfl hS5 sy_s11_14 dX12_isRead_23 (fun H locs X => ?_)
  refine lv_aload_n hx hb dX12_isRead_26 rfl (lv_at hl 0 rfl) ?_
  refine lv_iconst (v := 0) hx hb dX12_isRead_27 (by decide) ?_
  obtain ⟨S6, hS6, h⟩ := sy_b_e h
  refine sy_p11 fx X (sy_OModel_o ht) 15 (by decide) wm_339 (fun _ h9 => h9) rfl (ty := .boolean) (by decide +kernel) rfl rfl hS6 sy_s11_15 dX12_isRead_28 (fun H locs X => ?_)
  refine lv_aload_n hx hb dX12_isRead_31 rfl (lv_at hl 0 rfl) ?_
  refine lv_iconst (v := 0) hx hb dX12_isRead_32 (by decide) ?_
  obtain ⟨S7, hS7, h⟩ := sy_b_e h
  refine sy_p11 fx X (sy_OModel_o ht) 16 (by decide) wm_340 (fun _ h9 => h9) rfl (ty := .boolean) (by decide +kernel) rfl rfl hS7 sy_s11_16 dX12_isRead_33 (fun H locs X => ?_)
  refine lv_iconst (v := 0) hx hb dX12_isRead_36 (by decide) ?_
  refine lv_istore_n (lv' := [(1, .int 0), (0, .ref (sy_ad E 392))]) hx hb dX12_isRead_37 rfl hl (by decide) rfl (fun ls hl => ?_)
  exact L_38 sy_F 0 S7 _ _ _ X (lv_sub hl [1, 0] rfl) h
def m_Model_edge_B103 (kk103 : Int32 → sy_St → sy_R) (y2 : Int32) (S : sy_St) : sy_R := if 3 ≤ y2 then (sy_c (m_Model_begin S) fun r21 S20 => sy_b (sy_up S20 400 ((3 : Int32).toNatClampNeg) (S20 392 13)) fun S23 => some (S23 392 19, S23)) else (sy_g (sy_in y2 3) <| sy_g (sy_in y2 3) <| sy_b (sy_up S 399 y2.toNatClampNeg (S 396 y2.toNatClampNeg)) fun S26 => sy_b (y2 + 1 : Int32) fun x27 => kk103 x27 S26)
def m_Model_edge_B73 (kk73 : Int32 → sy_St → sy_R) (y2 : Int32) (S : sy_St) : sy_R := if (5 * (S 392 19)) ≤ y2 then (sy_fix (fun _ _ => none) (m_Model_edge_B103) sy_F 0 S) else (sy_g (sy_in y2 30) <| sy_g (sy_in y2 30) <| sy_b (sy_up S 398 y2.toNatClampNeg (S 395 y2.toNatClampNeg)) fun S17 => sy_b (y2 + 1 : Int32) fun x18 => kk73 x18 S17)
def m_Model_edge_B37 (kk37 : Int32 → sy_St → sy_R) (y2 : Int32) (S : sy_St) : sy_R := if (S 392 17) ≤ y2 then (sy_b (sy_up S 392 19 (S 392 10)) fun S9 => sy_fix (fun _ _ => none) (m_Model_edge_B73) sy_F 0 S9) else (sy_g (sy_in y2 12) <| sy_g (sy_in y2 12) <| sy_b (sy_up S 397 y2.toNatClampNeg (S 394 y2.toNatClampNeg)) fun S12 => sy_b (y2 + 1 : Int32) fun x13 => kk37 x13 S12)
def m_Model_edge (S : sy_St) : sy_R := sy_b (sy_up S 392 6 (-1)) fun S1 => sy_c (m_Model_isRead S1) fun r3 S2 => sy_b (sy_up S2 392 0 0) fun S5 => if r3 = 0 then (some ((-10) - (S5 392 7), S5)) else (sy_b (sy_up S5 392 17 (S5 392 8)) fun S7 => sy_fix (fun _ _ => none) (m_Model_edge_B37) sy_F 0 S7)
theorem cv_Model_edge : sy_cV RX12 yX12_edge cX12_edge 3 (some .int) 0 := ⟨wm_325, wm_326, wm_5, wm_327, by decide +kernel⟩
set_option maxRecDepth 100000 in
set_option maxHeartbeats 40000000 in
theorem c_Model_edge (l : Launch) {E : sy_ET} (ht : sy_OModel E) {S S' : sy_St} {r : Int32} (h : m_Model_edge S = some (r, S')) : sy_MI l yX12_edge cX12_edge 3 (some .int) 5 107 [.ref (sy_ad E 392)] E S r S' := by
  refine sy_MI_of RX12 pn_12 rfl (Nat.le_of_ble_eq_true rfl) (fun p e s m args below meth c A ls fx hr hlk hA X hl => ?_)
  have hx := fx.1
  have hb := fx.2.1
  have hown := fx.2.2.2.1
  have hts := fx.2.2.2.2
  have hl : lv_has ls 3 [(0, .ref (sy_ad E 392))] := hl
  have L_103 : ∀ (n103 : Nat) (y2 : Int32) (S : sy_St) (H : Heap) (locs : List Loc) (ls : Array Slot), sy_Wd E A s S H locs → lv_has ls 3 [(0, .ref (sy_ad E 392)), (2, .int y2)] → sy_fix (fun _ _ => none) (m_Model_edge_B103) n103 y2 S = some (r, S') → W p l e (sy_rm 5 107) s m args below meth c H locs 0 0 (MQ below (sy_Qi E A r S') args s 0 0 A) (F0 m 103 ls []) := by
    intro n103
    induction n103 with
    | zero => intro y2 S H locs ls X hl h; have h9 : (none : sy_R) = some (r, S') := h; cases h9
    | succ n103 ih103 =>
      intro y2 S H locs ls X hl h
      have h : m_Model_edge_B103 (sy_fix (fun _ _ => none) (m_Model_edge_B103) n103) y2 S = some (r, S') := h
      unfold m_Model_edge_B103 at h
      refine lv_iload_n hx hb dX12_edge_103 rfl (lv_at hl 1 rfl) ?_
      refine lv_iconst (v := 3) hx hb dX12_edge_104 (by decide) ?_
      refine lv_icmp_ge (tgt := 126) hx hb dX12_edge_105 (by decide) (fun c19 => ?_) (fun c19 => ?_)
      · have h := sy_t c19 h
        refine lv_aload_n hx hb dX12_edge_126 rfl (lv_at hl 0 rfl) ?_
        obtain ⟨r21, S20, hc22, h⟩ := sy_c_e h
        refine sy_vv (rest := []) fx hA X hl.1 (sy_OModel_o ht) (sy_en11 (sy_OModel_o ht).2) rfl (c_Model_begin l ht hc22) cv_Model_begin wm_184 ⟨Nat.le_of_ble_eq_true rfl, Nat.le_of_ble_eq_true rfl, Nat.le_refl _, Nat.le_refl _⟩ rfl rfl (Nat.le_of_ble_eq_true rfl) dX12_edge_127 (fun H locs X => ?_)
        refine lv_aload_n hx hb dX12_edge_130 rfl (lv_at hl 0 rfl) ?_
        refine sy_q11 fx X (sy_OModel_o ht) 22 (by decide) wm_174 (fun _ h9 => h9) rfl (sy_OModel_r22 ht) dX12_edge_131 ?_
        refine lv_iconst (v := 3) hx hb dX12_edge_134 (by decide) ?_
        refine lv_aload_n hx hb dX12_edge_135 rfl (lv_at hl 0 rfl) ?_
        refine sy_g11 fx X (sy_OModel_o ht) 13 (by decide) wm_332 (fun _ h9 => h9) rfl dX12_edge_136 ?_
        obtain ⟨S23, hS23, h⟩ := sy_b_e h
        refine sy_iast fx X (sy_OModel_a22 ht) (by decide) hS23 dX12_edge_139 (fun H locs X => ?_)
        refine lv_aload_n hx hb dX12_edge_140 rfl (lv_at hl 0 rfl) ?_
        refine sy_g11 fx X (sy_OModel_o ht) 19 (by decide) wm_188 (fun _ h9 => h9) rfl dX12_edge_141 ?_
        exact sy_iret fx X hr hlk h dX12_edge_144
      · have h := sy_f c19 h
        refine lv_aload_n hx hb dX12_edge_108 rfl (lv_at hl 0 rfl) ?_
        refine sy_q11 fx X (sy_OModel_o ht) 21 (by decide) wm_173 (fun _ h9 => h9) rfl (sy_OModel_r21 ht) dX12_edge_109 ?_
        refine lv_iload_n hx hb dX12_edge_112 rfl (lv_at hl 1 rfl) ?_
        refine lv_aload_n hx hb dX12_edge_113 rfl (lv_at hl 0 rfl) ?_
        refine sy_q11 fx X (sy_OModel_o ht) 12 (by decide) wm_170 (fun _ h9 => h9) rfl (sy_OModel_r12 ht) dX12_edge_114 ?_
        refine lv_iload_n hx hb dX12_edge_117 rfl (lv_at hl 1 rfl) ?_
        obtain ⟨g24, h⟩ := sy_g_e h
        refine sy_iald fx X (sy_OModel_a12 ht) g24 dX12_edge_118 ?_
        obtain ⟨g25, h⟩ := sy_g_e h
        obtain ⟨S26, hS26, h⟩ := sy_b_e h
        refine sy_iast fx X (sy_OModel_a21 ht) g25 hS26 dX12_edge_119 (fun H locs X => ?_)
        obtain ⟨x27, hx27, h⟩ := sy_b_e h
        refine lv_iinc (v := x27) (lv' := [(2, .int x27), (0, .ref (sy_ad E 392))]) hx hb dX12_edge_120 hl (k := 1) rfl (by rw [hx27]; rfl) (by decide) rfl (fun ls hl => ?_)
        refine lv_goto (tgt := 103) hx hb dX12_edge_123 (by decide) ?_
        exact ih103 x27 S26 _ _ _ X (lv_sub hl [1, 0] rfl) h
  have L_73 : ∀ (n73 : Nat) (y2 : Int32) (S : sy_St) (H : Heap) (locs : List Loc) (ls : Array Slot), sy_Wd E A s S H locs → lv_has ls 3 [(0, .ref (sy_ad E 392)), (2, .int y2)] → sy_fix (fun _ _ => none) (m_Model_edge_B73) n73 y2 S = some (r, S') → W p l e (sy_rm 5 107) s m args below meth c H locs 0 0 (MQ below (sy_Qi E A r S') args s 0 0 A) (F0 m 73 ls []) := by
    intro n73
    induction n73 with
    | zero => intro y2 S H locs ls X hl h; have h9 : (none : sy_R) = some (r, S') := h; cases h9
    | succ n73 ih73 =>
      intro y2 S H locs ls X hl h
      have h : m_Model_edge_B73 (sy_fix (fun _ _ => none) (m_Model_edge_B73) n73) y2 S = some (r, S') := h
      unfold m_Model_edge_B73 at h
      refine lv_iload_n hx hb dX12_edge_73 rfl (lv_at hl 1 rfl) ?_
      refine lv_iconst (v := 5) hx hb dX12_edge_74 (by decide) ?_
      refine lv_aload_n hx hb dX12_edge_75 rfl (lv_at hl 0 rfl) ?_
      refine sy_g11 fx X (sy_OModel_o ht) 19 (by decide) wm_188 (fun _ h9 => h9) rfl dX12_edge_76 ?_
      refine lv_imul hx hb dX12_edge_79 ?_
      refine lv_icmp_ge (tgt := 101) hx hb dX12_edge_80 (by decide) (fun c14 => ?_) (fun c14 => ?_)
      · have h := sy_t c14 h
        refine lv_iconst (v := 0) hx hb dX12_edge_101 (by decide) ?_
        refine lv_istore_n (lv' := [(2, .int 0), (0, .ref (sy_ad E 392))]) hx hb dX12_edge_102 rfl hl (by decide) rfl (fun ls hl => ?_)
        exact L_103 sy_F 0 S _ _ _ X (lv_sub hl [1, 0] rfl) h
      · have h := sy_f c14 h
        refine lv_aload_n hx hb dX12_edge_83 rfl (lv_at hl 0 rfl) ?_
        refine sy_q11 fx X (sy_OModel_o ht) 20 (by decide) wm_172 (fun _ h9 => h9) rfl (sy_OModel_r20 ht) dX12_edge_84 ?_
        refine lv_iload_n hx hb dX12_edge_87 rfl (lv_at hl 1 rfl) ?_
        refine lv_aload_n hx hb dX12_edge_88 rfl (lv_at hl 0 rfl) ?_
        refine sy_q11 fx X (sy_OModel_o ht) 11 (by decide) wm_169 (fun _ h9 => h9) rfl (sy_OModel_r11 ht) dX12_edge_89 ?_
        refine lv_iload_n hx hb dX12_edge_92 rfl (lv_at hl 1 rfl) ?_
        obtain ⟨g15, h⟩ := sy_g_e h
        refine sy_iald fx X (sy_OModel_a11 ht) g15 dX12_edge_93 ?_
        obtain ⟨g16, h⟩ := sy_g_e h
        obtain ⟨S17, hS17, h⟩ := sy_b_e h
        refine sy_iast fx X (sy_OModel_a20 ht) g16 hS17 dX12_edge_94 (fun H locs X => ?_)
        obtain ⟨x18, hx18, h⟩ := sy_b_e h
        refine lv_iinc (v := x18) (lv' := [(2, .int x18), (0, .ref (sy_ad E 392))]) hx hb dX12_edge_95 hl (k := 1) rfl (by rw [hx18]; rfl) (by decide) rfl (fun ls hl => ?_)
        refine lv_goto (tgt := 73) hx hb dX12_edge_98 (by decide) ?_
        exact ih73 x18 S17 _ _ _ X (lv_sub hl [1, 0] rfl) h
  have L_37 : ∀ (n37 : Nat) (y2 : Int32) (S : sy_St) (H : Heap) (locs : List Loc) (ls : Array Slot), sy_Wd E A s S H locs → lv_has ls 3 [(0, .ref (sy_ad E 392)), (2, .int y2)] → sy_fix (fun _ _ => none) (m_Model_edge_B37) n37 y2 S = some (r, S') → W p l e (sy_rm 5 107) s m args below meth c H locs 0 0 (MQ below (sy_Qi E A r S') args s 0 0 A) (F0 m 37 ls []) := by
    intro n37
    induction n37 with
    | zero => intro y2 S H locs ls X hl h; have h9 : (none : sy_R) = some (r, S') := h; cases h9
    | succ n37 ih37 =>
      intro y2 S H locs ls X hl h
      have h : m_Model_edge_B37 (sy_fix (fun _ _ => none) (m_Model_edge_B37) n37) y2 S = some (r, S') := h
      unfold m_Model_edge_B37 at h
      refine lv_iload_n hx hb dX12_edge_37 rfl (lv_at hl 1 rfl) ?_
      refine lv_aload_n hx hb dX12_edge_38 rfl (lv_at hl 0 rfl) ?_
      refine sy_g11 fx X (sy_OModel_o ht) 17 (by decide) wm_330 (fun _ h9 => h9) rfl dX12_edge_39 ?_
      refine lv_icmp_ge (tgt := 63) hx hb dX12_edge_42 (by decide) (fun c8 => ?_) (fun c8 => ?_)
      · have h := sy_t c8 h
        refine lv_aload_n hx hb dX12_edge_63 rfl (lv_at hl 0 rfl) ?_
        refine lv_aload_n hx hb dX12_edge_64 rfl (lv_at hl 0 rfl) ?_
        refine sy_g11 fx X (sy_OModel_o ht) 10 (by decide) wm_331 (fun _ h9 => h9) rfl dX12_edge_65 ?_
        obtain ⟨S9, hS9, h⟩ := sy_b_e h
        refine sy_p11 fx X (sy_OModel_o ht) 19 (by decide) wm_188 (fun _ h9 => h9) rfl (ty := .int) (by decide +kernel) rfl rfl hS9 sy_s11_19 dX12_edge_68 (fun H locs X => ?_)
        refine lv_iconst (v := 0) hx hb dX12_edge_71 (by decide) ?_
        refine lv_istore_n (lv' := [(2, .int 0), (0, .ref (sy_ad E 392))]) hx hb dX12_edge_72 rfl hl (by decide) rfl (fun ls hl => ?_)
        exact L_73 sy_F 0 S9 _ _ _ X (lv_sub hl [1, 0] rfl) h
      · have h := sy_f c8 h
        refine lv_aload_n hx hb dX12_edge_45 rfl (lv_at hl 0 rfl) ?_
        refine sy_q11 fx X (sy_OModel_o ht) 18 (by decide) wm_171 (fun _ h9 => h9) rfl (sy_OModel_r18 ht) dX12_edge_46 ?_
        refine lv_iload_n hx hb dX12_edge_49 rfl (lv_at hl 1 rfl) ?_
        refine lv_aload_n hx hb dX12_edge_50 rfl (lv_at hl 0 rfl) ?_
        refine sy_q11 fx X (sy_OModel_o ht) 9 (by decide) wm_168 (fun _ h9 => h9) rfl (sy_OModel_r9 ht) dX12_edge_51 ?_
        refine lv_iload_n hx hb dX12_edge_54 rfl (lv_at hl 1 rfl) ?_
        obtain ⟨g10, h⟩ := sy_g_e h
        refine sy_iald fx X (sy_OModel_a9 ht) g10 dX12_edge_55 ?_
        obtain ⟨g11, h⟩ := sy_g_e h
        obtain ⟨S12, hS12, h⟩ := sy_b_e h
        refine sy_iast fx X (sy_OModel_a18 ht) g11 hS12 dX12_edge_56 (fun H locs X => ?_)
        obtain ⟨x13, hx13, h⟩ := sy_b_e h
        refine lv_iinc (v := x13) (lv' := [(2, .int x13), (0, .ref (sy_ad E 392))]) hx hb dX12_edge_57 hl (k := 1) rfl (by rw [hx13]; rfl) (by decide) rfl (fun ls hl => ?_)
        refine lv_goto (tgt := 37) hx hb dX12_edge_60 (by decide) ?_
        exact ih37 x13 S12 _ _ _ X (lv_sub hl [1, 0] rfl) h
  unfold m_Model_edge at h
  refine lv_aload_n hx hb dX12_edge_0 rfl (lv_at hl 0 rfl) ?_
  refine lv_iconst (v := (-1)) hx hb dX12_edge_1 (by decide) ?_
  obtain ⟨S1, hS1, h⟩ := sy_b_e h
  refine sy_p11 fx X (sy_OModel_o ht) 6 (by decide) wm_167 (fun _ h9 => h9) rfl (ty := .int) (by decide +kernel) rfl rfl hS1 sy_s11_6 dX12_edge_2 (fun H locs X => ?_)
  refine lv_aload_n hx hb dX12_edge_5 rfl (lv_at hl 0 rfl) ?_
  obtain ⟨r3, S2, hc4, h⟩ := sy_c_e h
  refine sy_vi (rest := []) fx hA X hl.1 (sy_OModel_o ht) (sy_en11 (sy_OModel_o ht).2) rfl (c_Model_isRead l ht hc4) cv_Model_isRead wm_333 ⟨Nat.le_of_ble_eq_true rfl, Nat.le_of_ble_eq_true rfl, Nat.le_refl _, Nat.le_refl _⟩ rfl rfl (Nat.le_of_ble_eq_true rfl) dX12_edge_6 (fun H locs X => ?_)
  refine lv_istore_n (lv' := [(1, .int r3), (0, .ref (sy_ad E 392))]) hx hb dX12_edge_9 rfl hl (by decide) rfl (fun ls hl => ?_)
  refine lv_aload_n hx hb dX12_edge_10 rfl (lv_at hl 1 rfl) ?_
  refine lv_iconst (v := 0) hx hb dX12_edge_11 (by decide) ?_
  obtain ⟨S5, hS5, h⟩ := sy_b_e h
  refine sy_p11 fx X (sy_OModel_o ht) 0 (by decide) wm_209 (fun _ h9 => h9) rfl (ty := .int) (by decide +kernel) rfl rfl hS5 sy_s11_0 dX12_edge_12 (fun H locs X => ?_)
  refine lv_iload_n hx hb dX12_edge_15 rfl (lv_at hl 0 rfl) ?_
  refine lv_if_ne (tgt := 27) hx hb dX12_edge_16 (by decide) (fun c6 => ?_) (fun c6 => ?_)
  · have h := sy_f c6 h
    refine lv_aload_n hx hb dX12_edge_27 rfl (lv_at hl 1 rfl) ?_
    refine lv_aload_n hx hb dX12_edge_28 rfl (lv_at hl 1 rfl) ?_
    refine sy_g11 fx X (sy_OModel_o ht) 8 (by decide) wm_329 (fun _ h9 => h9) rfl dX12_edge_29 ?_
    obtain ⟨S7, hS7, h⟩ := sy_b_e h
    refine sy_p11 fx X (sy_OModel_o ht) 17 (by decide) wm_330 (fun _ h9 => h9) rfl (ty := .int) (by decide +kernel) rfl rfl hS7 sy_s11_17 dX12_edge_32 (fun H locs X => ?_)
    refine lv_iconst (v := 0) hx hb dX12_edge_35 (by decide) ?_
    refine lv_istore_n (lv' := [(2, .int 0), (1, .int r3), (0, .ref (sy_ad E 392))]) hx hb dX12_edge_36 rfl hl (by decide) rfl (fun ls hl => ?_)
    exact L_37 sy_F 0 S7 _ _ _ X (lv_sub hl [2, 0] rfl) h
  · have h := sy_t c6 h
    refine lv_bipush (v := (-10)) hx hb dX12_edge_19 (by decide) ?_
    refine lv_aload_n hx hb dX12_edge_21 rfl (lv_at hl 1 rfl) ?_
    refine sy_g11 fx X (sy_OModel_o ht) 7 (by decide) wm_328 (fun _ h9 => h9) rfl dX12_edge_22 ?_
    refine lv_isub hx hb dX12_edge_25 ?_
    exact sy_iret fx X hr hlk h dX12_edge_26
def m_Model_fault (S : sy_St) : sy_R := some (S 392 6, S)
theorem cv_Model_fault : sy_cV RX12 yX12_fault cX12_fault 1 (some .int) 0 := ⟨wm_381, wm_382, wm_5, wm_383, by decide +kernel⟩
set_option maxRecDepth 100000 in
set_option maxHeartbeats 40000000 in
theorem c_Model_fault (l : Launch) {E : sy_ET} (ht : sy_OModel E) {S S' : sy_St} {r : Int32} (h : m_Model_fault S = some (r, S')) : sy_MI l yX12_fault cX12_fault 1 (some .int) 0 0 [.ref (sy_ad E 392)] E S r S' := by
  refine sy_MI_of RX12 pn_12 rfl (Nat.le_of_ble_eq_true rfl) (fun p e s m args below meth c A ls fx hr hlk hA X hl => ?_)
  have hx := fx.1
  have hb := fx.2.1
  have hown := fx.2.2.2.1
  have hts := fx.2.2.2.2
  have hl : lv_has ls 1 [(0, .ref (sy_ad E 392))] := hl
  unfold m_Model_fault at h
  refine lv_aload_n hx hb dX12_fault_0 rfl (lv_at hl 0 rfl) ?_
  refine sy_g11 fx X (sy_OModel_o ht) 6 (by decide) wm_167 (fun _ h9 => h9) rfl dX12_fault_1 ?_
  exact sy_iret fx X hr hlk h dX12_fault_4
def m_Model_feed (p0 : Int32) (S : sy_St) : sy_R := sy_c (m_Model_in p0 0 255 S) fun r2 S1 => if r2 = 0 then (some ((-1000000002), S1)) else (if (S1 392 0) = 250 then (some ((-1000000004), S1)) else (sy_g (sy_in (S1 392 0) 250) <| sy_b (sy_up S1 393 ((S1 392 0).toNatClampNeg) p0) fun S7 => sy_b (sy_up S7 392 0 ((S7 392 0) + 1)) fun S8 => some (S8 392 0, S8)))
theorem cv_Model_feed : sy_cV RX12 yX12_feed cX12_feed 2 (some .int) 1 := ⟨wm_205, wm_206, wm_5, wm_207, by decide +kernel⟩
set_option maxRecDepth 100000 in
set_option maxHeartbeats 40000000 in
theorem c_Model_feed (l : Launch) {E : sy_ET} (ht : sy_OModel E) {p0 : Int32} {S S' : sy_St} {r : Int32} (h : m_Model_feed p0 S = some (r, S')) : sy_MI l yX12_feed cX12_feed 2 (some .int) 1 22 [.ref (sy_ad E 392), .int p0] E S r S' := by
  refine sy_MI_of RX12 pn_12 rfl (Nat.le_of_ble_eq_true rfl) (fun p e s m args below meth c A ls fx hr hlk hA X hl => ?_)
  have hx := fx.1
  have hb := fx.2.1
  have hown := fx.2.2.2.1
  have hts := fx.2.2.2.2
  have hl : lv_has ls 2 [(0, .ref (sy_ad E 392)), (1, .int p0)] := hl
  unfold m_Model_feed at h
  refine lv_iload_n hx hb dX12_feed_0 rfl (lv_at hl 1 rfl) ?_
  refine lv_iconst (v := 0) hx hb dX12_feed_1 (by decide) ?_
  refine lv_sipush (v := 255) hx hb dX12_feed_2 (by decide) ?_
  obtain ⟨r2, S1, hc3, h⟩ := sy_c_e h
  refine sy_si (rest := []) fx hA X hl.1 (c_Model_in l hc3) cv_Model_in wm_211 ⟨Nat.le_of_ble_eq_true rfl, Nat.le_of_ble_eq_true rfl, Nat.le_refl _, Nat.le_refl _⟩ rfl rfl (Nat.le_of_ble_eq_true rfl) dX12_feed_5 (fun H locs X => ?_)
  refine lv_if_ne (tgt := 14) hx hb dX12_feed_8 (by decide) (fun c4 => ?_) (fun c4 => ?_)
  · have h := sy_f c4 h
    refine lv_aload_n hx hb dX12_feed_14 rfl (lv_at hl 0 rfl) ?_
    refine sy_g11 fx X (sy_OModel_o ht) 0 (by decide) wm_209 (fun _ h9 => h9) rfl dX12_feed_15 ?_
    refine lv_sipush (v := 250) hx hb dX12_feed_18 (by decide) ?_
    refine lv_icmp_ne (tgt := 27) hx hb dX12_feed_21 (by decide) (fun c5 => ?_) (fun c5 => ?_)
    · have h := sy_f c5 h
      refine lv_aload_n hx hb dX12_feed_27 rfl (lv_at hl 0 rfl) ?_
      refine sy_q11 fx X (sy_OModel_o ht) 1 (by decide) wm_166 (fun _ h9 => h9) rfl (sy_OModel_r1 ht) dX12_feed_28 ?_
      refine lv_aload_n hx hb dX12_feed_31 rfl (lv_at hl 0 rfl) ?_
      refine sy_g11 fx X (sy_OModel_o ht) 0 (by decide) wm_209 (fun _ h9 => h9) rfl dX12_feed_32 ?_
      refine lv_iload_n hx hb dX12_feed_35 rfl (lv_at hl 1 rfl) ?_
      obtain ⟨g6, h⟩ := sy_g_e h
      obtain ⟨S7, hS7, h⟩ := sy_b_e h
      refine sy_iast fx X (sy_OModel_a1 ht) g6 hS7 dX12_feed_36 (fun H locs X => ?_)
      refine lv_aload_n hx hb dX12_feed_37 rfl (lv_at hl 0 rfl) ?_
      refine lv_dup hx hb dX12_feed_38 rfl ?_
      refine sy_g11 fx X (sy_OModel_o ht) 0 (by decide) wm_209 (fun _ h9 => h9) rfl dX12_feed_39 ?_
      refine lv_iconst (v := 1) hx hb dX12_feed_42 (by decide) ?_
      refine lv_iadd hx hb dX12_feed_43 ?_
      obtain ⟨S8, hS8, h⟩ := sy_b_e h
      refine sy_p11 fx X (sy_OModel_o ht) 0 (by decide) wm_209 (fun _ h9 => h9) rfl (ty := .int) (by decide +kernel) rfl rfl hS8 sy_s11_0 dX12_feed_44 (fun H locs X => ?_)
      refine lv_aload_n hx hb dX12_feed_47 rfl (lv_at hl 0 rfl) ?_
      refine sy_g11 fx X (sy_OModel_o ht) 0 (by decide) wm_209 (fun _ h9 => h9) rfl dX12_feed_48 ?_
      exact sy_iret fx X hr hlk h dX12_feed_51
    · have h := sy_t c5 h
      refine lv_ldc (v := (-1000000004)) hx hb hown (hts _ wm_210) dX12_feed_24 ?_
      exact sy_iret fx X hr hlk h dX12_feed_26
  · have h := sy_t c4 h
    refine lv_ldc (v := (-1000000002)) hx hb hown (hts _ wm_208) dX12_feed_11 ?_
    exact sy_iret fx X hr hlk h dX12_feed_13
def m_Model_fruit (p0 : Int32) (S : sy_St) : sy_R := sy_c (m_Model_in p0 0 99 S) fun r2 S1 => if r2 = 0 then (some ((-1000000002), S1)) else (if ((S1 400 ((3 : Int32).toNatClampNeg)) + p0) ≤ 999 then (sy_b (sy_up S1 400 ((3 : Int32).toNatClampNeg) ((S1 400 ((3 : Int32).toNatClampNeg)) + p0)) fun S6 => some (S6 400 ((3 : Int32).toNatClampNeg), S6)) else (sy_b (sy_up S1 400 ((3 : Int32).toNatClampNeg) 999) fun S7 => some (S7 400 ((3 : Int32).toNatClampNeg), S7)))
theorem cv_Model_fruit : sy_cV RX12 yX12_fruit cX12_fruit 2 (some .int) 1 := ⟨wm_639, wm_640, wm_5, wm_641, by decide +kernel⟩
set_option maxRecDepth 100000 in
set_option maxHeartbeats 40000000 in
theorem c_Model_fruit (l : Launch) {E : sy_ET} (ht : sy_OModel E) {p0 : Int32} {S S' : sy_St} {r : Int32} (h : m_Model_fruit p0 S = some (r, S')) : sy_MI l yX12_fruit cX12_fruit 2 (some .int) 1 22 [.ref (sy_ad E 392), .int p0] E S r S' := by
  refine sy_MI_of RX12 pn_12 rfl (Nat.le_of_ble_eq_true rfl) (fun p e s m args below meth c A ls fx hr hlk hA X hl => ?_)
  have hx := fx.1
  have hb := fx.2.1
  have hown := fx.2.2.2.1
  have hts := fx.2.2.2.2
  have hl : lv_has ls 2 [(0, .ref (sy_ad E 392)), (1, .int p0)] := hl
  unfold m_Model_fruit at h
  refine lv_iload_n hx hb dX12_fruit_0 rfl (lv_at hl 1 rfl) ?_
  refine lv_iconst (v := 0) hx hb dX12_fruit_1 (by decide) ?_
  refine lv_bipush (v := 99) hx hb dX12_fruit_2 (by decide) ?_
  obtain ⟨r2, S1, hc3, h⟩ := sy_c_e h
  refine sy_si (rest := []) fx hA X hl.1 (c_Model_in l hc3) cv_Model_in wm_211 ⟨Nat.le_of_ble_eq_true rfl, Nat.le_of_ble_eq_true rfl, Nat.le_refl _, Nat.le_refl _⟩ rfl rfl (Nat.le_of_ble_eq_true rfl) dX12_fruit_4 (fun H locs X => ?_)
  refine lv_if_ne (tgt := 13) hx hb dX12_fruit_7 (by decide) (fun c4 => ?_) (fun c4 => ?_)
  · have h := sy_f c4 h
    refine lv_aload_n hx hb dX12_fruit_13 rfl (lv_at hl 0 rfl) ?_
    refine sy_q11 fx X (sy_OModel_o ht) 22 (by decide) wm_174 (fun _ h9 => h9) rfl (sy_OModel_r22 ht) dX12_fruit_14 ?_
    refine lv_iconst (v := 3) hx hb dX12_fruit_17 (by decide) ?_
    refine lv_aload_n hx hb dX12_fruit_18 rfl (lv_at hl 0 rfl) ?_
    refine sy_q11 fx X (sy_OModel_o ht) 22 (by decide) wm_174 (fun _ h9 => h9) rfl (sy_OModel_r22 ht) dX12_fruit_19 ?_
    refine lv_iconst (v := 3) hx hb dX12_fruit_22 (by decide) ?_
    refine sy_iald fx X (sy_OModel_a22 ht) (by decide) dX12_fruit_23 ?_
    refine lv_iload_n hx hb dX12_fruit_24 rfl (lv_at hl 1 rfl) ?_
    refine lv_iadd hx hb dX12_fruit_25 ?_
    refine lv_sipush (v := 999) hx hb dX12_fruit_26 (by decide) ?_
    refine lv_icmp_le (tgt := 38) hx hb dX12_fruit_29 (by decide) (fun c5 => ?_) (fun c5 => ?_)
    · have h := sy_t c5 h
      refine lv_aload_n hx hb dX12_fruit_38 rfl (lv_at hl 0 rfl) ?_
      refine sy_q11 fx X (sy_OModel_o ht) 22 (by decide) wm_174 (fun _ h9 => h9) rfl (sy_OModel_r22 ht) dX12_fruit_39 ?_
      refine lv_iconst (v := 3) hx hb dX12_fruit_42 (by decide) ?_
      refine sy_iald fx X (sy_OModel_a22 ht) (by decide) dX12_fruit_43 ?_
      refine lv_iload_n hx hb dX12_fruit_44 rfl (lv_at hl 1 rfl) ?_
      refine lv_iadd hx hb dX12_fruit_45 ?_
      obtain ⟨S6, hS6, h⟩ := sy_b_e h
      refine sy_iast fx X (sy_OModel_a22 ht) (by decide) hS6 dX12_fruit_46 (fun H locs X => ?_)
      refine lv_aload_n hx hb dX12_fruit_47 rfl (lv_at hl 0 rfl) ?_
      refine sy_q11 fx X (sy_OModel_o ht) 22 (by decide) wm_174 (fun _ h9 => h9) rfl (sy_OModel_r22 ht) dX12_fruit_48 ?_
      refine lv_iconst (v := 3) hx hb dX12_fruit_51 (by decide) ?_
      refine sy_iald fx X (sy_OModel_a22 ht) (by decide) dX12_fruit_52 ?_
      exact sy_iret fx X hr hlk h dX12_fruit_53
    · have h := sy_f c5 h
      refine lv_sipush (v := 999) hx hb dX12_fruit_32 (by decide) ?_
      refine lv_goto (tgt := 46) hx hb dX12_fruit_35 (by decide) ?_
      obtain ⟨S7, hS7, h⟩ := sy_b_e h
      refine sy_iast fx X (sy_OModel_a22 ht) (by decide) hS7 dX12_fruit_46 (fun H locs X => ?_)
      refine lv_aload_n hx hb dX12_fruit_47 rfl (lv_at hl 0 rfl) ?_
      refine sy_q11 fx X (sy_OModel_o ht) 22 (by decide) wm_174 (fun _ h9 => h9) rfl (sy_OModel_r22 ht) dX12_fruit_48 ?_
      refine lv_iconst (v := 3) hx hb dX12_fruit_51 (by decide) ?_
      refine sy_iald fx X (sy_OModel_a22 ht) (by decide) dX12_fruit_52 ?_
      exact sy_iret fx X hr hlk h dX12_fruit_53
  · have h := sy_t c4 h
    refine lv_ldc (v := (-1000000002)) hx hb hown (hts _ wm_208) dX12_fruit_10 ?_
    exact sy_iret fx X hr hlk h dX12_fruit_12
def m_Model_goBack (p0 : Int32) (S : sy_St) : sy_R := sy_c (m_Model_in p0 0 1 S) fun r2 S1 => if r2 = 0 then (some ((-1000000001), S1)) else (sy_g (sy_in p0 2) <| if (S1 403 p0.toNatClampNeg) = 0 then (some ((-1000000003), S1)) else (sy_c (m_Model_copy 402 62 400 31 (31 * p0) 0 S1) fun r8 S7 => sy_b (sy_up S7 392 26 0) fun S10 => some (1, S10)))
theorem cv_Model_goBack : sy_cV RX12 yX12_goBack cX12_goBack 2 (some .int) 1 := ⟨wm_1073, wm_1074, wm_5, wm_1075, by decide +kernel⟩
set_option maxRecDepth 100000 in
set_option maxHeartbeats 40000000 in
theorem c_Model_goBack (l : Launch) {E : sy_ET} (ht : sy_OModel E) {p0 : Int32} {S S' : sy_St} {r : Int32} (h : m_Model_goBack p0 S = some (r, S')) : sy_MI l yX12_goBack cX12_goBack 2 (some .int) 1 24 [.ref (sy_ad E 392), .int p0] E S r S' := by
  refine sy_MI_of RX12 pn_12 rfl (Nat.le_of_ble_eq_true rfl) (fun p e s m args below meth c A ls fx hr hlk hA X hl => ?_)
  have hx := fx.1
  have hb := fx.2.1
  have hown := fx.2.2.2.1
  have hts := fx.2.2.2.2
  have hl : lv_has ls 2 [(0, .ref (sy_ad E 392)), (1, .int p0)] := hl
  unfold m_Model_goBack at h
  refine lv_iload_n hx hb dX12_goBack_0 rfl (lv_at hl 1 rfl) ?_
  refine lv_iconst (v := 0) hx hb dX12_goBack_1 (by decide) ?_
  refine lv_iconst (v := 1) hx hb dX12_goBack_2 (by decide) ?_
  obtain ⟨r2, S1, hc3, h⟩ := sy_c_e h
  refine sy_si (rest := []) fx hA X hl.1 (c_Model_in l hc3) cv_Model_in wm_211 ⟨Nat.le_of_ble_eq_true rfl, Nat.le_of_ble_eq_true rfl, Nat.le_refl _, Nat.le_refl _⟩ rfl rfl (Nat.le_of_ble_eq_true rfl) dX12_goBack_3 (fun H locs X => ?_)
  refine lv_if_ne (tgt := 12) hx hb dX12_goBack_6 (by decide) (fun c4 => ?_) (fun c4 => ?_)
  · have h := sy_f c4 h
    refine lv_aload_n hx hb dX12_goBack_12 rfl (lv_at hl 0 rfl) ?_
    refine sy_q11 fx X (sy_OModel_o ht) 25 (by decide) wm_177 (fun _ h9 => h9) rfl (sy_OModel_r25 ht) dX12_goBack_13 ?_
    refine lv_iload_n hx hb dX12_goBack_16 rfl (lv_at hl 1 rfl) ?_
    obtain ⟨g5, h⟩ := sy_g_e h
    refine sy_zald fx X (sy_OModel_a25 ht) g5 dX12_goBack_17 ?_
    refine lv_if_ne (tgt := 24) hx hb dX12_goBack_18 (by decide) (fun c6 => ?_) (fun c6 => ?_)
    · have h := sy_f c6 h
      refine lv_aload_n hx hb dX12_goBack_24 rfl (lv_at hl 0 rfl) ?_
      refine sy_q11 fx X (sy_OModel_o ht) 24 (by decide) wm_176 (fun _ h9 => h9) rfl (sy_OModel_r24 ht) dX12_goBack_25 ?_
      refine lv_bipush (v := 31) hx hb dX12_goBack_28 (by decide) ?_
      refine lv_iload_n hx hb dX12_goBack_30 rfl (lv_at hl 1 rfl) ?_
      refine lv_imul hx hb dX12_goBack_31 ?_
      refine lv_aload_n hx hb dX12_goBack_32 rfl (lv_at hl 0 rfl) ?_
      refine sy_q11 fx X (sy_OModel_o ht) 22 (by decide) wm_174 (fun _ h9 => h9) rfl (sy_OModel_r22 ht) dX12_goBack_33 ?_
      refine lv_iconst (v := 0) hx hb dX12_goBack_36 (by decide) ?_
      obtain ⟨r8, S7, hc9, h⟩ := sy_c_e h
      refine sy_sv (rest := []) fx hA X hl.1 (c_Model_copy l (sy_OModel_a24 ht) (sy_OModel_a22 ht) hc9) cv_Model_copy wm_539 ⟨Nat.le_of_ble_eq_true rfl, Nat.le_of_ble_eq_true rfl, Nat.le_refl _, Nat.le_refl _⟩ rfl rfl (Nat.le_of_ble_eq_true rfl) dX12_goBack_37 (fun H locs X => ?_)
      refine lv_aload_n hx hb dX12_goBack_40 rfl (lv_at hl 0 rfl) ?_
      refine lv_iconst (v := 0) hx hb dX12_goBack_41 (by decide) ?_
      obtain ⟨S10, hS10, h⟩ := sy_b_e h
      refine sy_p11 fx X (sy_OModel_o ht) 26 (by decide) wm_189 (fun _ h9 => h9) rfl (ty := .int) (by decide +kernel) rfl rfl hS10 sy_s11_26 dX12_goBack_42 (fun H locs X => ?_)
      refine lv_iconst (v := 1) hx hb dX12_goBack_45 (by decide) ?_
      exact sy_iret fx X hr hlk h dX12_goBack_46
    · have h := sy_t c6 h
      refine lv_ldc (v := (-1000000003)) hx hb hown (hts _ wm_530) dX12_goBack_21 ?_
      exact sy_iret fx X hr hlk h dX12_goBack_23
  · have h := sy_t c4 h
    refine lv_ldc (v := (-1000000001)) hx hb hown (hts _ wm_457) dX12_goBack_9 ?_
    exact sy_iret fx X hr hlk h dX12_goBack_11
def m_Model_goesFor_B15 (kk15 : Int32 → Int32 → Int32 → sy_St → sy_R) (y1 : Int32) (y2 : Int32) (y3 : Int32) (S : sy_St) : sy_R := if y1 ≤ y3 then (some (y1, S)) else (sy_g (sy_in y3 5) <| sy_b (sy_up S 401 ((4 : Int32).toNatClampNeg) (S 407 y3.toNatClampNeg)) fun S6 => sy_b (sy_up S6 401 ((5 : Int32).toNatClampNeg) (-1)) fun S7 => sy_c (m_Model_pass 401 31 0 S7) fun r9 S8 => if (S8 401 ((1 : Int32).toNatClampNeg)) ≤ y2 then (sy_b (y3 + 1 : Int32) fun x12 => kk15 y1 y2 x12 S8) else (some (y3, S8)))
def m_Model_goesFor (p0 : Int32) (p1 : Int32) (S : sy_St) : sy_R := sy_c (m_Model_copy 400 31 401 31 0 0 S) fun r2 S1 => sy_fix (fun _ _ _ _ => none) (m_Model_goesFor_B15) sy_F p0 p1 0 S1
theorem cv_Model_goesFor : sy_cV RX12 yX12_goesFor cX12_goesFor 4 (some .int) 2 := ⟨wm_779, wm_780, wm_5, wm_781, by decide +kernel⟩
set_option maxRecDepth 100000 in
set_option maxHeartbeats 40000000 in
theorem c_Model_goesFor (l : Launch) {E : sy_ET} (ht : sy_OModel E) {p0 : Int32} {p1 : Int32} {S S' : sy_St} {r : Int32} (h : m_Model_goesFor p0 p1 S = some (r, S')) : sy_MI l yX12_goesFor cX12_goesFor 4 (some .int) 4 92 [.ref (sy_ad E 392), .int p0, .int p1] E S r S' := by
  refine sy_MI_of RX12 pn_12 rfl (Nat.le_of_ble_eq_true rfl) (fun p e s m args below meth c A ls fx hr hlk hA X hl => ?_)
  have hx := fx.1
  have hb := fx.2.1
  have hown := fx.2.2.2.1
  have hts := fx.2.2.2.2
  have hl : lv_has ls 4 [(0, .ref (sy_ad E 392)), (1, .int p0), (2, .int p1)] := hl
  have L_15 : ∀ (n15 : Nat) (y1 y2 y3 : Int32) (S : sy_St) (H : Heap) (locs : List Loc) (ls : Array Slot), sy_Wd E A s S H locs → lv_has ls 4 [(0, .ref (sy_ad E 392)), (1, .int y1), (2, .int y2), (3, .int y3)] → sy_fix (fun _ _ _ _ => none) (m_Model_goesFor_B15) n15 y1 y2 y3 S = some (r, S') → W p l e (sy_rm 4 92) s m args below meth c H locs 0 0 (MQ below (sy_Qi E A r S') args s 0 0 A) (F0 m 15 ls []) := by
    intro n15
    induction n15 with
    | zero => intro y1 y2 y3 S H locs ls X hl h; have h9 : (none : sy_R) = some (r, S') := h; cases h9
    | succ n15 ih15 =>
      intro y1 y2 y3 S H locs ls X hl h
      have h : m_Model_goesFor_B15 (sy_fix (fun _ _ _ _ => none) (m_Model_goesFor_B15) n15) y1 y2 y3 S = some (r, S') := h
      unfold m_Model_goesFor_B15 at h
      refine lv_iload_n hx hb dX12_goesFor_15 rfl (lv_at hl 3 rfl) ?_
      refine lv_iload_n hx hb dX12_goesFor_16 rfl (lv_at hl 1 rfl) ?_
      refine lv_icmp_ge (tgt := 66) hx hb dX12_goesFor_17 (by decide) (fun c4 => ?_) (fun c4 => ?_)
      · have h := sy_t c4 h
        refine lv_iload_n hx hb dX12_goesFor_66 rfl (lv_at hl 1 rfl) ?_
        exact sy_iret fx X hr hlk h dX12_goesFor_67
      · have h := sy_f c4 h
        refine lv_aload_n hx hb dX12_goesFor_20 rfl (lv_at hl 0 rfl) ?_
        refine sy_q11 fx X (sy_OModel_o ht) 23 (by decide) wm_175 (fun _ h9 => h9) rfl (sy_OModel_r23 ht) dX12_goesFor_21 ?_
        refine lv_iconst (v := 4) hx hb dX12_goesFor_24 (by decide) ?_
        refine lv_aload_n hx hb dX12_goesFor_25 rfl (lv_at hl 0 rfl) ?_
        refine sy_q11 fx X (sy_OModel_o ht) 32 (by decide) wm_181 (fun _ h9 => h9) rfl (sy_OModel_r32 ht) dX12_goesFor_26 ?_
        refine lv_iload_n hx hb dX12_goesFor_29 rfl (lv_at hl 3 rfl) ?_
        obtain ⟨g5, h⟩ := sy_g_e h
        refine sy_iald fx X (sy_OModel_a32 ht) g5 dX12_goesFor_30 ?_
        obtain ⟨S6, hS6, h⟩ := sy_b_e h
        refine sy_iast fx X (sy_OModel_a23 ht) (by decide) hS6 dX12_goesFor_31 (fun H locs X => ?_)
        refine lv_aload_n hx hb dX12_goesFor_32 rfl (lv_at hl 0 rfl) ?_
        refine sy_q11 fx X (sy_OModel_o ht) 23 (by decide) wm_175 (fun _ h9 => h9) rfl (sy_OModel_r23 ht) dX12_goesFor_33 ?_
        refine lv_iconst (v := 5) hx hb dX12_goesFor_36 (by decide) ?_
        refine lv_iconst (v := (-1)) hx hb dX12_goesFor_37 (by decide) ?_
        obtain ⟨S7, hS7, h⟩ := sy_b_e h
        refine sy_iast fx X (sy_OModel_a23 ht) (by decide) hS7 dX12_goesFor_38 (fun H locs X => ?_)
        refine lv_aload_n hx hb dX12_goesFor_39 rfl (lv_at hl 0 rfl) ?_
        refine lv_aload_n hx hb dX12_goesFor_40 rfl (lv_at hl 0 rfl) ?_
        refine sy_q11 fx X (sy_OModel_o ht) 23 (by decide) wm_175 (fun _ h9 => h9) rfl (sy_OModel_r23 ht) dX12_goesFor_41 ?_
        refine lv_iconst (v := 0) hx hb dX12_goesFor_44 (by decide) ?_
        obtain ⟨r9, S8, hc10, h⟩ := sy_c_e h
        refine sy_vv (rest := []) fx hA X hl.1 (sy_OModel_o ht) (sy_en11 (sy_OModel_o ht).2) rfl (c_Model_pass l ht (sy_OModel_a23 ht) hc10) cv_Model_pass wm_542 ⟨Nat.le_of_ble_eq_true rfl, Nat.le_of_ble_eq_true rfl, Nat.le_refl _, Nat.le_refl _⟩ rfl rfl (Nat.le_of_ble_eq_true rfl) dX12_goesFor_45 (fun H locs X => ?_)
        refine lv_aload_n hx hb dX12_goesFor_48 rfl (lv_at hl 0 rfl) ?_
        refine sy_q11 fx X (sy_OModel_o ht) 23 (by decide) wm_175 (fun _ h9 => h9) rfl (sy_OModel_r23 ht) dX12_goesFor_49 ?_
        refine lv_iconst (v := 1) hx hb dX12_goesFor_52 (by decide) ?_
        refine sy_iald fx X (sy_OModel_a23 ht) (by decide) dX12_goesFor_53 ?_
        refine lv_iload_n hx hb dX12_goesFor_54 rfl (lv_at hl 2 rfl) ?_
        refine lv_icmp_le (tgt := 60) hx hb dX12_goesFor_55 (by decide) (fun c11 => ?_) (fun c11 => ?_)
        · have h := sy_t c11 h
          obtain ⟨x12, hx12, h⟩ := sy_b_e h
          refine lv_iinc (v := x12) (lv' := [(3, .int x12), (0, .ref (sy_ad E 392)), (1, .int y1), (2, .int y2)]) hx hb dX12_goesFor_60 hl (k := 3) rfl (by rw [hx12]; rfl) (by decide) rfl (fun ls hl => ?_)
          refine lv_goto (tgt := 15) hx hb dX12_goesFor_63 (by decide) ?_
          exact ih15 y1 y2 x12 S8 _ _ _ X (lv_sub hl [1, 2, 3, 0] rfl) h
        · have h := sy_f c11 h
          refine lv_iload_n hx hb dX12_goesFor_58 rfl (lv_at hl 3 rfl) ?_
          exact sy_iret fx X hr hlk h dX12_goesFor_59
  unfold m_Model_goesFor at h
  refine lv_aload_n hx hb dX12_goesFor_0 rfl (lv_at hl 0 rfl) ?_
  refine sy_q11 fx X (sy_OModel_o ht) 22 (by decide) wm_174 (fun _ h9 => h9) rfl (sy_OModel_r22 ht) dX12_goesFor_1 ?_
  refine lv_iconst (v := 0) hx hb dX12_goesFor_4 (by decide) ?_
  refine lv_aload_n hx hb dX12_goesFor_5 rfl (lv_at hl 0 rfl) ?_
  refine sy_q11 fx X (sy_OModel_o ht) 23 (by decide) wm_175 (fun _ h9 => h9) rfl (sy_OModel_r23 ht) dX12_goesFor_6 ?_
  refine lv_iconst (v := 0) hx hb dX12_goesFor_9 (by decide) ?_
  obtain ⟨r2, S1, hc3, h⟩ := sy_c_e h
  refine sy_sv (rest := []) fx hA X hl.1 (c_Model_copy l (sy_OModel_a22 ht) (sy_OModel_a23 ht) hc3) cv_Model_copy wm_539 ⟨Nat.le_of_ble_eq_true rfl, Nat.le_of_ble_eq_true rfl, Nat.le_refl _, Nat.le_refl _⟩ rfl rfl (Nat.le_of_ble_eq_true rfl) dX12_goesFor_10 (fun H locs X => ?_)
  refine lv_iconst (v := 0) hx hb dX12_goesFor_13 (by decide) ?_
  refine lv_istore_n (lv' := [(3, .int 0), (0, .ref (sy_ad E 392)), (1, .int p0), (2, .int p1)]) hx hb dX12_goesFor_14 rfl hl (by decide) rfl (fun ls hl => ?_)
  exact L_15 sy_F p0 p1 0 S1 _ _ _ X (lv_sub hl [1, 2, 3, 0] rfl) h
def m_Model_hour_B25 (kk25 : Int32 → Int32 → sy_St → sy_R) (y1 : Int32) (y2 : Int32) (S : sy_St) : sy_R := if y1 ≤ y2 then (some (S 400 ((1 : Int32).toNatClampNeg), S)) else (sy_c (m_Model_note S) fun r11 S10 => sy_c (m_Model_pass 400 31 0 S10) fun r14 S13 => sy_b (y2 + 1 : Int32) fun x16 => kk25 y1 x16 S13)
def m_Model_hour (p0 : Int32) (S : sy_St) : sy_R := sy_c (m_Model_in p0 1 99 S) fun r2 S1 => if r2 = 0 then (some ((-1000000002), S1)) else (sy_c (m_Model_isHere S1) fun r6 S5 => if r6 = 0 then (some ((-1000000003), S5)) else (sy_fix (fun _ _ _ => none) (m_Model_hour_B25) sy_F p0 0 S5))
theorem cv_Model_hour : sy_cV RX12 yX12_hour cX12_hour 3 (some .int) 1 := ⟨wm_527, wm_528, wm_5, wm_529, by decide +kernel⟩
set_option maxRecDepth 100000 in
set_option maxHeartbeats 40000000 in
theorem c_Model_hour (l : Launch) {E : sy_ET} (ht : sy_OModel E) {p0 : Int32} {S S' : sy_St} {r : Int32} (h : m_Model_hour p0 S = some (r, S')) : sy_MI l yX12_hour cX12_hour 3 (some .int) 4 92 [.ref (sy_ad E 392), .int p0] E S r S' := by
  refine sy_MI_of RX12 pn_12 rfl (Nat.le_of_ble_eq_true rfl) (fun p e s m args below meth c A ls fx hr hlk hA X hl => ?_)
  have hx := fx.1
  have hb := fx.2.1
  have hown := fx.2.2.2.1
  have hts := fx.2.2.2.2
  have hl : lv_has ls 3 [(0, .ref (sy_ad E 392)), (1, .int p0)] := hl
  have L_25 : ∀ (n25 : Nat) (y1 y2 : Int32) (S : sy_St) (H : Heap) (locs : List Loc) (ls : Array Slot), sy_Wd E A s S H locs → lv_has ls 3 [(0, .ref (sy_ad E 392)), (1, .int y1), (2, .int y2)] → sy_fix (fun _ _ _ => none) (m_Model_hour_B25) n25 y1 y2 S = some (r, S') → W p l e (sy_rm 4 92) s m args below meth c H locs 0 0 (MQ below (sy_Qi E A r S') args s 0 0 A) (F0 m 25 ls []) := by
    intro n25
    induction n25 with
    | zero => intro y1 y2 S H locs ls X hl h; have h9 : (none : sy_R) = some (r, S') := h; cases h9
    | succ n25 ih25 =>
      intro y1 y2 S H locs ls X hl h
      have h : m_Model_hour_B25 (sy_fix (fun _ _ _ => none) (m_Model_hour_B25) n25) y1 y2 S = some (r, S') := h
      unfold m_Model_hour_B25 at h
      refine lv_iload_n hx hb dX12_hour_25 rfl (lv_at hl 2 rfl) ?_
      refine lv_iload_n hx hb dX12_hour_26 rfl (lv_at hl 1 rfl) ?_
      refine lv_icmp_ge (tgt := 49) hx hb dX12_hour_27 (by decide) (fun c9 => ?_) (fun c9 => ?_)
      · have h := sy_t c9 h
        refine lv_aload_n hx hb dX12_hour_49 rfl (lv_at hl 0 rfl) ?_
        refine sy_q11 fx X (sy_OModel_o ht) 22 (by decide) wm_174 (fun _ h9 => h9) rfl (sy_OModel_r22 ht) dX12_hour_50 ?_
        refine lv_iconst (v := 1) hx hb dX12_hour_53 (by decide) ?_
        refine sy_iald fx X (sy_OModel_a22 ht) (by decide) dX12_hour_54 ?_
        exact sy_iret fx X hr hlk h dX12_hour_55
      · have h := sy_f c9 h
        refine lv_aload_n hx hb dX12_hour_30 rfl (lv_at hl 0 rfl) ?_
        obtain ⟨r11, S10, hc12, h⟩ := sy_c_e h
        refine sy_vv (rest := []) fx hA X hl.1 (sy_OModel_o ht) (sy_en11 (sy_OModel_o ht).2) rfl (c_Model_note l ht hc12) cv_Model_note wm_535 ⟨Nat.le_of_ble_eq_true rfl, Nat.le_of_ble_eq_true rfl, Nat.le_refl _, Nat.le_refl _⟩ rfl rfl (Nat.le_of_ble_eq_true rfl) dX12_hour_31 (fun H locs X => ?_)
        refine lv_aload_n hx hb dX12_hour_34 rfl (lv_at hl 0 rfl) ?_
        refine lv_aload_n hx hb dX12_hour_35 rfl (lv_at hl 0 rfl) ?_
        refine sy_q11 fx X (sy_OModel_o ht) 22 (by decide) wm_174 (fun _ h9 => h9) rfl (sy_OModel_r22 ht) dX12_hour_36 ?_
        refine lv_iconst (v := 0) hx hb dX12_hour_39 (by decide) ?_
        obtain ⟨r14, S13, hc15, h⟩ := sy_c_e h
        refine sy_vv (rest := []) fx hA X hl.1 (sy_OModel_o ht) (sy_en11 (sy_OModel_o ht).2) rfl (c_Model_pass l ht (sy_OModel_a22 ht) hc15) cv_Model_pass wm_542 ⟨Nat.le_of_ble_eq_true rfl, Nat.le_of_ble_eq_true rfl, Nat.le_refl _, Nat.le_refl _⟩ rfl rfl (Nat.le_of_ble_eq_true rfl) dX12_hour_40 (fun H locs X => ?_)
        obtain ⟨x16, hx16, h⟩ := sy_b_e h
        refine lv_iinc (v := x16) (lv' := [(2, .int x16), (0, .ref (sy_ad E 392)), (1, .int y1)]) hx hb dX12_hour_43 hl (k := 2) rfl (by rw [hx16]; rfl) (by decide) rfl (fun ls hl => ?_)
        refine lv_goto (tgt := 25) hx hb dX12_hour_46 (by decide) ?_
        exact ih25 y1 x16 S13 _ _ _ X (lv_sub hl [1, 2, 0] rfl) h
  unfold m_Model_hour at h
  refine lv_iload_n hx hb dX12_hour_0 rfl (lv_at hl 1 rfl) ?_
  refine lv_iconst (v := 1) hx hb dX12_hour_1 (by decide) ?_
  refine lv_bipush (v := 99) hx hb dX12_hour_2 (by decide) ?_
  obtain ⟨r2, S1, hc3, h⟩ := sy_c_e h
  refine sy_si (rest := []) fx hA X hl.1 (c_Model_in l hc3) cv_Model_in wm_211 ⟨Nat.le_of_ble_eq_true rfl, Nat.le_of_ble_eq_true rfl, Nat.le_refl _, Nat.le_refl _⟩ rfl rfl (Nat.le_of_ble_eq_true rfl) dX12_hour_4 (fun H locs X => ?_)
  refine lv_if_ne (tgt := 13) hx hb dX12_hour_7 (by decide) (fun c4 => ?_) (fun c4 => ?_)
  · have h := sy_f c4 h
    refine lv_aload_n hx hb dX12_hour_13 rfl (lv_at hl 0 rfl) ?_
    obtain ⟨r6, S5, hc7, h⟩ := sy_c_e h
    refine sy_vi (rest := []) fx hA X hl.1 (sy_OModel_o ht) (sy_en11 (sy_OModel_o ht).2) rfl (c_Model_isHere l ht hc7) cv_Model_isHere wm_531 ⟨Nat.le_of_ble_eq_true rfl, Nat.le_of_ble_eq_true rfl, Nat.le_refl _, Nat.le_refl _⟩ rfl rfl (Nat.le_of_ble_eq_true rfl) dX12_hour_14 (fun H locs X => ?_)
    refine lv_if_ne (tgt := 23) hx hb dX12_hour_17 (by decide) (fun c8 => ?_) (fun c8 => ?_)
    · have h := sy_f c8 h
      refine lv_iconst (v := 0) hx hb dX12_hour_23 (by decide) ?_
      refine lv_istore_n (lv' := [(2, .int 0), (0, .ref (sy_ad E 392)), (1, .int p0)]) hx hb dX12_hour_24 rfl hl (by decide) rfl (fun ls hl => ?_)
      exact L_25 sy_F p0 0 S5 _ _ _ X (lv_sub hl [1, 2, 0] rfl) h
    · have h := sy_t c8 h
      refine lv_ldc (v := (-1000000003)) hx hb hown (hts _ wm_530) dX12_hour_20 ?_
      exact sy_iret fx X hr hlk h dX12_hour_22
  · have h := sy_t c4 h
    refine lv_ldc (v := (-1000000002)) hx hb hown (hts _ wm_208) dX12_hour_10 ?_
    exact sy_iret fx X hr hlk h dX12_hour_12
def m_Model_isAsSeen_B15 (kk15 : Int32 → sy_St → sy_R) (y1 : Int32) (S : sy_St) : sy_R := if (S 392 28) ≤ y1 then (some (1, S)) else (sy_g (sy_in y1 5) <| sy_b (sy_up S 401 ((4 : Int32).toNatClampNeg) (S 407 y1.toNatClampNeg)) fun S6 => sy_b (sy_up S6 401 ((5 : Int32).toNatClampNeg) (-1)) fun S7 => sy_c (m_Model_pass 401 31 0 S7) fun r9 S8 => sy_g (sy_in y1 5) <| if (S8 401 ((1 : Int32).toNatClampNeg)) = (S8 405 y1.toNatClampNeg) then (sy_b (y1 + 1 : Int32) fun x13 => kk15 x13 S8) else (some (0, S8)))
def m_Model_isAsSeen (S : sy_St) : sy_R := sy_c (m_Model_copy 400 31 401 31 0 0 S) fun r2 S1 => sy_fix (fun _ _ => none) (m_Model_isAsSeen_B15) sy_F 0 S1
theorem cv_Model_isAsSeen : sy_cV RX12 yX12_isAsSeen cX12_isAsSeen 2 (some .boolean) 0 := ⟨wm_1003, wm_1004, wm_5, wm_1005, by decide +kernel⟩
set_option maxRecDepth 100000 in
set_option maxHeartbeats 40000000 in
theorem c_Model_isAsSeen (l : Launch) {E : sy_ET} (ht : sy_OModel E) {S S' : sy_St} {r : Int32} (h : m_Model_isAsSeen S = some (r, S')) : sy_MI l yX12_isAsSeen cX12_isAsSeen 2 (some .boolean) 4 92 [.ref (sy_ad E 392)] E S r S' := by
  refine sy_MI_of RX12 pn_12 rfl (Nat.le_of_ble_eq_true rfl) (fun p e s m args below meth c A ls fx hr hlk hA X hl => ?_)
  have hx := fx.1
  have hb := fx.2.1
  have hown := fx.2.2.2.1
  have hts := fx.2.2.2.2
  have hl : lv_has ls 2 [(0, .ref (sy_ad E 392))] := hl
  have L_15 : ∀ (n15 : Nat) (y1 : Int32) (S : sy_St) (H : Heap) (locs : List Loc) (ls : Array Slot), sy_Wd E A s S H locs → lv_has ls 2 [(0, .ref (sy_ad E 392)), (1, .int y1)] → sy_fix (fun _ _ => none) (m_Model_isAsSeen_B15) n15 y1 S = some (r, S') → W p l e (sy_rm 4 92) s m args below meth c H locs 0 0 (MQ below (sy_Qi E A r S') args s 0 0 A) (F0 m 15 ls []) := by
    intro n15
    induction n15 with
    | zero => intro y1 S H locs ls X hl h; have h9 : (none : sy_R) = some (r, S') := h; cases h9
    | succ n15 ih15 =>
      intro y1 S H locs ls X hl h
      have h : m_Model_isAsSeen_B15 (sy_fix (fun _ _ => none) (m_Model_isAsSeen_B15) n15) y1 S = some (r, S') := h
      unfold m_Model_isAsSeen_B15 at h
      refine lv_iload_n hx hb dX12_isAsSeen_15 rfl (lv_at hl 1 rfl) ?_
      refine lv_aload_n hx hb dX12_isAsSeen_16 rfl (lv_at hl 0 rfl) ?_
      refine sy_g11 fx X (sy_OModel_o ht) 28 (by decide) wm_190 (fun _ h9 => h9) rfl dX12_isAsSeen_17 ?_
      refine lv_icmp_ge (tgt := 74) hx hb dX12_isAsSeen_20 (by decide) (fun c4 => ?_) (fun c4 => ?_)
      · have h := sy_t c4 h
        refine lv_iconst (v := 1) hx hb dX12_isAsSeen_74 (by decide) ?_
        exact sy_zret fx X hr hlk (Or.inr rfl) h dX12_isAsSeen_75
      · have h := sy_f c4 h
        refine lv_aload_n hx hb dX12_isAsSeen_23 rfl (lv_at hl 0 rfl) ?_
        refine sy_q11 fx X (sy_OModel_o ht) 23 (by decide) wm_175 (fun _ h9 => h9) rfl (sy_OModel_r23 ht) dX12_isAsSeen_24 ?_
        refine lv_iconst (v := 4) hx hb dX12_isAsSeen_27 (by decide) ?_
        refine lv_aload_n hx hb dX12_isAsSeen_28 rfl (lv_at hl 0 rfl) ?_
        refine sy_q11 fx X (sy_OModel_o ht) 32 (by decide) wm_181 (fun _ h9 => h9) rfl (sy_OModel_r32 ht) dX12_isAsSeen_29 ?_
        refine lv_iload_n hx hb dX12_isAsSeen_32 rfl (lv_at hl 1 rfl) ?_
        obtain ⟨g5, h⟩ := sy_g_e h
        refine sy_iald fx X (sy_OModel_a32 ht) g5 dX12_isAsSeen_33 ?_
        obtain ⟨S6, hS6, h⟩ := sy_b_e h
        refine sy_iast fx X (sy_OModel_a23 ht) (by decide) hS6 dX12_isAsSeen_34 (fun H locs X => ?_)
        refine lv_aload_n hx hb dX12_isAsSeen_35 rfl (lv_at hl 0 rfl) ?_
        refine sy_q11 fx X (sy_OModel_o ht) 23 (by decide) wm_175 (fun _ h9 => h9) rfl (sy_OModel_r23 ht) dX12_isAsSeen_36 ?_
        refine lv_iconst (v := 5) hx hb dX12_isAsSeen_39 (by decide) ?_
        refine lv_iconst (v := (-1)) hx hb dX12_isAsSeen_40 (by decide) ?_
        obtain ⟨S7, hS7, h⟩ := sy_b_e h
        refine sy_iast fx X (sy_OModel_a23 ht) (by decide) hS7 dX12_isAsSeen_41 (fun H locs X => ?_)
        refine lv_aload_n hx hb dX12_isAsSeen_42 rfl (lv_at hl 0 rfl) ?_
        refine lv_aload_n hx hb dX12_isAsSeen_43 rfl (lv_at hl 0 rfl) ?_
        refine sy_q11 fx X (sy_OModel_o ht) 23 (by decide) wm_175 (fun _ h9 => h9) rfl (sy_OModel_r23 ht) dX12_isAsSeen_44 ?_
        refine lv_iconst (v := 0) hx hb dX12_isAsSeen_47 (by decide) ?_
        obtain ⟨r9, S8, hc10, h⟩ := sy_c_e h
        refine sy_vv (rest := []) fx hA X hl.1 (sy_OModel_o ht) (sy_en11 (sy_OModel_o ht).2) rfl (c_Model_pass l ht (sy_OModel_a23 ht) hc10) cv_Model_pass wm_542 ⟨Nat.le_of_ble_eq_true rfl, Nat.le_of_ble_eq_true rfl, Nat.le_refl _, Nat.le_refl _⟩ rfl rfl (Nat.le_of_ble_eq_true rfl) dX12_isAsSeen_48 (fun H locs X => ?_)
        refine lv_aload_n hx hb dX12_isAsSeen_51 rfl (lv_at hl 0 rfl) ?_
        refine sy_q11 fx X (sy_OModel_o ht) 23 (by decide) wm_175 (fun _ h9 => h9) rfl (sy_OModel_r23 ht) dX12_isAsSeen_52 ?_
        refine lv_iconst (v := 1) hx hb dX12_isAsSeen_55 (by decide) ?_
        refine sy_iald fx X (sy_OModel_a23 ht) (by decide) dX12_isAsSeen_56 ?_
        refine lv_aload_n hx hb dX12_isAsSeen_57 rfl (lv_at hl 0 rfl) ?_
        refine sy_q11 fx X (sy_OModel_o ht) 29 (by decide) wm_179 (fun _ h9 => h9) rfl (sy_OModel_r29 ht) dX12_isAsSeen_58 ?_
        refine lv_iload_n hx hb dX12_isAsSeen_61 rfl (lv_at hl 1 rfl) ?_
        obtain ⟨g11, h⟩ := sy_g_e h
        refine sy_iald fx X (sy_OModel_a29 ht) g11 dX12_isAsSeen_62 ?_
        refine lv_icmp_eq (tgt := 68) hx hb dX12_isAsSeen_63 (by decide) (fun c12 => ?_) (fun c12 => ?_)
        · have h := sy_t c12 h
          obtain ⟨x13, hx13, h⟩ := sy_b_e h
          refine lv_iinc (v := x13) (lv' := [(1, .int x13), (0, .ref (sy_ad E 392))]) hx hb dX12_isAsSeen_68 hl (k := 1) rfl (by rw [hx13]; rfl) (by decide) rfl (fun ls hl => ?_)
          refine lv_goto (tgt := 15) hx hb dX12_isAsSeen_71 (by decide) ?_
          exact ih15 x13 S8 _ _ _ X (lv_sub hl [1, 0] rfl) h
        · have h := sy_f c12 h
          refine lv_iconst (v := 0) hx hb dX12_isAsSeen_66 (by decide) ?_
          exact sy_zret fx X hr hlk (Or.inl rfl) h dX12_isAsSeen_67
  unfold m_Model_isAsSeen at h
  refine lv_aload_n hx hb dX12_isAsSeen_0 rfl (lv_at hl 0 rfl) ?_
  refine sy_q11 fx X (sy_OModel_o ht) 22 (by decide) wm_174 (fun _ h9 => h9) rfl (sy_OModel_r22 ht) dX12_isAsSeen_1 ?_
  refine lv_iconst (v := 0) hx hb dX12_isAsSeen_4 (by decide) ?_
  refine lv_aload_n hx hb dX12_isAsSeen_5 rfl (lv_at hl 0 rfl) ?_
  refine sy_q11 fx X (sy_OModel_o ht) 23 (by decide) wm_175 (fun _ h9 => h9) rfl (sy_OModel_r23 ht) dX12_isAsSeen_6 ?_
  refine lv_iconst (v := 0) hx hb dX12_isAsSeen_9 (by decide) ?_
  obtain ⟨r2, S1, hc3, h⟩ := sy_c_e h
  refine sy_sv (rest := []) fx hA X hl.1 (c_Model_copy l (sy_OModel_a22 ht) (sy_OModel_a23 ht) hc3) cv_Model_copy wm_539 ⟨Nat.le_of_ble_eq_true rfl, Nat.le_of_ble_eq_true rfl, Nat.le_refl _, Nat.le_refl _⟩ rfl rfl (Nat.le_of_ble_eq_true rfl) dX12_isAsSeen_10 (fun H locs X => ?_)
  refine lv_iconst (v := 0) hx hb dX12_isAsSeen_13 (by decide) ?_
  refine lv_istore_n (lv' := [(1, .int 0), (0, .ref (sy_ad E 392))]) hx hb dX12_isAsSeen_14 rfl hl (by decide) rfl (fun ls hl => ?_)
  exact L_15 sy_F 0 S1 _ _ _ X (lv_sub hl [1, 0] rfl) h
def m_Model_join (p0 : Int32) (S : sy_St) : sy_R := sy_c (m_Model_isOne p0 S) fun r2 S1 => if r2 = 0 then (some ((-1000000001), S1)) else (sy_c (m_Model_holds 400 31 p0 S1) fun r6 S5 => if r6 = 0 then (if (S5 400 ((5 : Int32).toNatClampNeg)) = (-1) then (sy_c (m_Model_areLevel p0 (S5 400 ((4 : Int32).toNatClampNeg)) S5) fun r11 S10 => if r11 = 0 then (some ((-1000000003), S10)) else (sy_b (sy_up S10 400 ((5 : Int32).toNatClampNeg) p0) fun S14 => sy_c (m_Model_forceOfAll 400 31 S14) fun r16 S15 => some (r16, S15))) else (some ((-1000000003), S5))) else (some ((-1000000003), S5)))
theorem cv_Model_join : sy_cV RX12 yX12_join cX12_join 2 (some .int) 1 := ⟨wm_626, wm_627, wm_5, wm_628, by decide +kernel⟩
set_option maxRecDepth 100000 in
set_option maxHeartbeats 40000000 in
theorem c_Model_join (l : Launch) {E : sy_ET} (ht : sy_OModel E) {p0 : Int32} {S S' : sy_St} {r : Int32} (h : m_Model_join p0 S = some (r, S')) : sy_MI l yX12_join cX12_join 2 (some .int) 3 67 [.ref (sy_ad E 392), .int p0] E S r S' := by
  refine sy_MI_of RX12 pn_12 rfl (Nat.le_of_ble_eq_true rfl) (fun p e s m args below meth c A ls fx hr hlk hA X hl => ?_)
  have hx := fx.1
  have hb := fx.2.1
  have hown := fx.2.2.2.1
  have hts := fx.2.2.2.2
  have hl : lv_has ls 2 [(0, .ref (sy_ad E 392)), (1, .int p0)] := hl
  unfold m_Model_join at h
  refine lv_aload_n hx hb dX12_join_0 rfl (lv_at hl 0 rfl) ?_
  refine lv_iload_n hx hb dX12_join_1 rfl (lv_at hl 1 rfl) ?_
  obtain ⟨r2, S1, hc3, h⟩ := sy_c_e h
  refine sy_vi (rest := []) fx hA X hl.1 (sy_OModel_o ht) (sy_en11 (sy_OModel_o ht).2) rfl (c_Model_isOne l ht hc3) cv_Model_isOne wm_458 ⟨Nat.le_of_ble_eq_true rfl, Nat.le_of_ble_eq_true rfl, Nat.le_refl _, Nat.le_refl _⟩ rfl rfl (Nat.le_of_ble_eq_true rfl) dX12_join_2 (fun H locs X => ?_)
  refine lv_if_ne (tgt := 11) hx hb dX12_join_5 (by decide) (fun c4 => ?_) (fun c4 => ?_)
  · have h := sy_f c4 h
    refine lv_aload_n hx hb dX12_join_11 rfl (lv_at hl 0 rfl) ?_
    refine sy_q11 fx X (sy_OModel_o ht) 22 (by decide) wm_174 (fun _ h9 => h9) rfl (sy_OModel_r22 ht) dX12_join_12 ?_
    refine lv_iload_n hx hb dX12_join_15 rfl (lv_at hl 1 rfl) ?_
    obtain ⟨r6, S5, hc7, h⟩ := sy_c_e h
    refine sy_si (rest := []) fx hA X hl.1 (c_Model_holds l (sy_OModel_a22 ht) hc7) cv_Model_holds wm_570 ⟨Nat.le_of_ble_eq_true rfl, Nat.le_of_ble_eq_true rfl, Nat.le_refl _, Nat.le_refl _⟩ rfl rfl (Nat.le_of_ble_eq_true rfl) dX12_join_16 (fun H locs X => ?_)
    refine lv_if_ne (tgt := 46) hx hb dX12_join_19 (by decide) (fun c8 => ?_) (fun c8 => ?_)
    · have h := sy_f c8 h
      refine lv_ldc (v := (-1000000003)) hx hb hown (hts _ wm_530) dX12_join_46 ?_
      exact sy_iret fx X hr hlk h dX12_join_48
    · have h := sy_t c8 h
      refine lv_aload_n hx hb dX12_join_22 rfl (lv_at hl 0 rfl) ?_
      refine sy_q11 fx X (sy_OModel_o ht) 22 (by decide) wm_174 (fun _ h9 => h9) rfl (sy_OModel_r22 ht) dX12_join_23 ?_
      refine lv_iconst (v := 5) hx hb dX12_join_26 (by decide) ?_
      refine sy_iald fx X (sy_OModel_a22 ht) (by decide) dX12_join_27 ?_
      refine lv_iconst (v := (-1)) hx hb dX12_join_28 (by decide) ?_
      refine lv_icmp_ne (tgt := 46) hx hb dX12_join_29 (by decide) (fun c9 => ?_) (fun c9 => ?_)
      · have h := sy_f c9 h
        refine lv_ldc (v := (-1000000003)) hx hb hown (hts _ wm_530) dX12_join_46 ?_
        exact sy_iret fx X hr hlk h dX12_join_48
      · have h := sy_t c9 h
        refine lv_aload_n hx hb dX12_join_32 rfl (lv_at hl 0 rfl) ?_
        refine lv_iload_n hx hb dX12_join_33 rfl (lv_at hl 1 rfl) ?_
        refine lv_aload_n hx hb dX12_join_34 rfl (lv_at hl 0 rfl) ?_
        refine sy_q11 fx X (sy_OModel_o ht) 22 (by decide) wm_174 (fun _ h9 => h9) rfl (sy_OModel_r22 ht) dX12_join_35 ?_
        refine lv_iconst (v := 4) hx hb dX12_join_38 (by decide) ?_
        refine sy_iald fx X (sy_OModel_a22 ht) (by decide) dX12_join_39 ?_
        obtain ⟨r11, S10, hc12, h⟩ := sy_c_e h
        refine sy_vi (rest := []) fx hA X hl.1 (sy_OModel_o ht) (sy_en11 (sy_OModel_o ht).2) rfl (c_Model_areLevel l ht hc12) cv_Model_areLevel wm_629 ⟨Nat.le_of_ble_eq_true rfl, Nat.le_of_ble_eq_true rfl, Nat.le_refl _, Nat.le_refl _⟩ rfl rfl (Nat.le_of_ble_eq_true rfl) dX12_join_40 (fun H locs X => ?_)
        refine lv_if_ne (tgt := 49) hx hb dX12_join_43 (by decide) (fun c13 => ?_) (fun c13 => ?_)
        · have h := sy_f c13 h
          refine lv_aload_n hx hb dX12_join_49 rfl (lv_at hl 0 rfl) ?_
          refine sy_q11 fx X (sy_OModel_o ht) 22 (by decide) wm_174 (fun _ h9 => h9) rfl (sy_OModel_r22 ht) dX12_join_50 ?_
          refine lv_iconst (v := 5) hx hb dX12_join_53 (by decide) ?_
          refine lv_iload_n hx hb dX12_join_54 rfl (lv_at hl 1 rfl) ?_
          obtain ⟨S14, hS14, h⟩ := sy_b_e h
          refine sy_iast fx X (sy_OModel_a22 ht) (by decide) hS14 dX12_join_55 (fun H locs X => ?_)
          refine lv_aload_n hx hb dX12_join_56 rfl (lv_at hl 0 rfl) ?_
          refine lv_aload_n hx hb dX12_join_57 rfl (lv_at hl 0 rfl) ?_
          refine sy_q11 fx X (sy_OModel_o ht) 22 (by decide) wm_174 (fun _ h9 => h9) rfl (sy_OModel_r22 ht) dX12_join_58 ?_
          obtain ⟨r16, S15, hc17, h⟩ := sy_c_e h
          refine sy_vi (rest := []) fx hA X hl.1 (sy_OModel_o ht) (sy_en11 (sy_OModel_o ht).2) rfl (c_Model_forceOfAll l ht (sy_OModel_a22 ht) hc17) cv_Model_forceOfAll wm_425 ⟨Nat.le_of_ble_eq_true rfl, Nat.le_of_ble_eq_true rfl, Nat.le_refl _, Nat.le_refl _⟩ rfl rfl (Nat.le_of_ble_eq_true rfl) dX12_join_61 (fun H locs X => ?_)
          exact sy_iret fx X hr hlk h dX12_join_64
        · have h := sy_t c13 h
          refine lv_ldc (v := (-1000000003)) hx hb hown (hts _ wm_530) dX12_join_46 ?_
          exact sy_iret fx X hr hlk h dX12_join_48
  · have h := sy_t c4 h
    refine lv_ldc (v := (-1000000001)) hx hb hown (hts _ wm_457) dX12_join_8 ?_
    exact sy_iret fx X hr hlk h dX12_join_10
def m_Model_judge_B15 (kk15 : Int32 → sy_St → sy_R) (y1 : Int32) (S : sy_St) : sy_R := if (S 392 30) ≤ y1 then (some ((-1), S)) else (sy_b (3 * y1 : Int32) fun x5 => sy_g (sy_in x5 60) <| sy_b (S 406 x5.toNatClampNeg : Int32) fun x7 => sy_c (m_Model_holds 401 31 x7 S) fun r9 S8 => if r9 = 0 then (sy_b ((3 * y1) + 1 : Int32) fun x12 => sy_g (sy_in x12 60) <| sy_c (m_Model_offers 401 31 x7 (S8 406 x12.toNatClampNeg) S8) fun r15 S14 => sy_b ((3 * y1) + 2 : Int32) fun x17 => sy_g (sy_in x17 60) <| if (S14 406 x17.toNatClampNeg) = 1 then (if r15 = 1 then (sy_b (y1 + 1 : Int32) fun x23 => kk15 x23 S14) else (some (y1, S14))) else (if r15 = 0 then (sy_b (y1 + 1 : Int32) fun x21 => kk15 x21 S14) else (some (y1, S14)))) else (some (y1, S8)))
def m_Model_judge (S : sy_St) : sy_R := sy_c (m_Model_copy 400 31 401 31 0 0 S) fun r2 S1 => sy_fix (fun _ _ => none) (m_Model_judge_B15) sy_F 0 S1
theorem cv_Model_judge : sy_cV RX12 yX12_judge cX12_judge 3 (some .int) 0 := ⟨wm_1038, wm_1039, wm_5, wm_1040, by decide +kernel⟩
set_option maxRecDepth 100000 in
set_option maxHeartbeats 40000000 in
theorem c_Model_judge (l : Launch) {E : sy_ET} (ht : sy_OModel E) {S S' : sy_St} {r : Int32} (h : m_Model_judge S = some (r, S')) : sy_MI l yX12_judge cX12_judge 3 (some .int) 3 67 [.ref (sy_ad E 392)] E S r S' := by
  refine sy_MI_of RX12 pn_12 rfl (Nat.le_of_ble_eq_true rfl) (fun p e s m args below meth c A ls fx hr hlk hA X hl => ?_)
  have hx := fx.1
  have hb := fx.2.1
  have hown := fx.2.2.2.1
  have hts := fx.2.2.2.2
  have hl : lv_has ls 3 [(0, .ref (sy_ad E 392))] := hl
  have L_15 : ∀ (n15 : Nat) (y1 : Int32) (S : sy_St) (H : Heap) (locs : List Loc) (ls : Array Slot), sy_Wd E A s S H locs → lv_has ls 3 [(0, .ref (sy_ad E 392)), (1, .int y1)] → sy_fix (fun _ _ => none) (m_Model_judge_B15) n15 y1 S = some (r, S') → W p l e (sy_rm 3 67) s m args below meth c H locs 0 0 (MQ below (sy_Qi E A r S') args s 0 0 A) (F0 m 15 ls []) := by
    intro n15
    induction n15 with
    | zero => intro y1 S H locs ls X hl h; have h9 : (none : sy_R) = some (r, S') := h; cases h9
    | succ n15 ih15 =>
      intro y1 S H locs ls X hl h
      have h : m_Model_judge_B15 (sy_fix (fun _ _ => none) (m_Model_judge_B15) n15) y1 S = some (r, S') := h
      unfold m_Model_judge_B15 at h
      refine lv_iload_n hx hb dX12_judge_15 rfl (lv_at hl 1 rfl) ?_
      refine lv_aload_n hx hb dX12_judge_16 rfl (lv_at hl 0 rfl) ?_
      refine sy_g11 fx X (sy_OModel_o ht) 30 (by decide) wm_191 (fun _ h9 => h9) rfl dX12_judge_17 ?_
      refine lv_icmp_ge (tgt := 92) hx hb dX12_judge_20 (by decide) (fun c4 => ?_) (fun c4 => ?_)
      · have h := sy_t c4 h
        refine lv_iconst (v := (-1)) hx hb dX12_judge_92 (by decide) ?_
        exact sy_iret fx X hr hlk h dX12_judge_93
      · have h := sy_f c4 h
        refine lv_aload_n hx hb dX12_judge_23 rfl (lv_at hl 0 rfl) ?_
        refine sy_q11 fx X (sy_OModel_o ht) 31 (by decide) wm_180 (fun _ h9 => h9) rfl (sy_OModel_r31 ht) dX12_judge_24 ?_
        refine lv_iconst (v := 3) hx hb dX12_judge_27 (by decide) ?_
        refine lv_iload_n hx hb dX12_judge_28 rfl (lv_at hl 1 rfl) ?_
        refine lv_imul hx hb dX12_judge_29 ?_
        obtain ⟨x5, hx5, h⟩ := sy_b_e h
        refine sy_top hx5 ?_
        obtain ⟨g6, h⟩ := sy_g_e h
        refine sy_iald fx X (sy_OModel_a31 ht) g6 dX12_judge_30 ?_
        obtain ⟨x7, hx7, h⟩ := sy_b_e h
        refine sy_top hx7 ?_
        refine lv_istore_n (lv' := [(2, .int x7), (0, .ref (sy_ad E 392)), (1, .int y1)]) hx hb dX12_judge_31 rfl hl (by decide) rfl (fun ls hl => ?_)
        refine lv_aload_n hx hb dX12_judge_32 rfl (lv_at hl 1 rfl) ?_
        refine sy_q11 fx X (sy_OModel_o ht) 23 (by decide) wm_175 (fun _ h9 => h9) rfl (sy_OModel_r23 ht) dX12_judge_33 ?_
        refine lv_iload_n hx hb dX12_judge_36 rfl (lv_at hl 0 rfl) ?_
        obtain ⟨r9, S8, hc10, h⟩ := sy_c_e h
        refine sy_si (rest := []) fx hA X hl.1 (c_Model_holds l (sy_OModel_a23 ht) hc10) cv_Model_holds wm_570 ⟨Nat.le_of_ble_eq_true rfl, Nat.le_of_ble_eq_true rfl, Nat.le_refl _, Nat.le_refl _⟩ rfl rfl (Nat.le_of_ble_eq_true rfl) dX12_judge_37 (fun H locs X => ?_)
        refine lv_if_ne (tgt := 84) hx hb dX12_judge_40 (by decide) (fun c11 => ?_) (fun c11 => ?_)
        · have h := sy_f c11 h
          refine lv_iload_n hx hb dX12_judge_84 rfl (lv_at hl 2 rfl) ?_
          exact sy_iret fx X hr hlk h dX12_judge_85
        · have h := sy_t c11 h
          refine lv_aload_n hx hb dX12_judge_43 rfl (lv_at hl 1 rfl) ?_
          refine lv_aload_n hx hb dX12_judge_44 rfl (lv_at hl 1 rfl) ?_
          refine sy_q11 fx X (sy_OModel_o ht) 23 (by decide) wm_175 (fun _ h9 => h9) rfl (sy_OModel_r23 ht) dX12_judge_45 ?_
          refine lv_iload_n hx hb dX12_judge_48 rfl (lv_at hl 0 rfl) ?_
          refine lv_aload_n hx hb dX12_judge_49 rfl (lv_at hl 1 rfl) ?_
          refine sy_q11 fx X (sy_OModel_o ht) 31 (by decide) wm_180 (fun _ h9 => h9) rfl (sy_OModel_r31 ht) dX12_judge_50 ?_
          refine lv_iconst (v := 3) hx hb dX12_judge_53 (by decide) ?_
          refine lv_iload_n hx hb dX12_judge_54 rfl (lv_at hl 2 rfl) ?_
          refine lv_imul hx hb dX12_judge_55 ?_
          refine lv_iconst (v := 1) hx hb dX12_judge_56 (by decide) ?_
          refine lv_iadd hx hb dX12_judge_57 ?_
          obtain ⟨x12, hx12, h⟩ := sy_b_e h
          refine sy_top hx12 ?_
          obtain ⟨g13, h⟩ := sy_g_e h
          refine sy_iald fx X (sy_OModel_a31 ht) g13 dX12_judge_58 ?_
          obtain ⟨r15, S14, hc16, h⟩ := sy_c_e h
          refine sy_vi (rest := []) fx hA X hl.1 (sy_OModel_o ht) (sy_en11 (sy_OModel_o ht).2) rfl (c_Model_offers l ht (sy_OModel_a23 ht) hc16) cv_Model_offers wm_573 ⟨Nat.le_of_ble_eq_true rfl, Nat.le_of_ble_eq_true rfl, Nat.le_refl _, Nat.le_refl _⟩ rfl rfl (Nat.le_of_ble_eq_true rfl) dX12_judge_59 (fun H locs X => ?_)
          refine lv_aload_n hx hb dX12_judge_62 rfl (lv_at hl 1 rfl) ?_
          refine sy_q11 fx X (sy_OModel_o ht) 31 (by decide) wm_180 (fun _ h9 => h9) rfl (sy_OModel_r31 ht) dX12_judge_63 ?_
          refine lv_iconst (v := 3) hx hb dX12_judge_66 (by decide) ?_
          refine lv_iload_n hx hb dX12_judge_67 rfl (lv_at hl 2 rfl) ?_
          refine lv_imul hx hb dX12_judge_68 ?_
          refine lv_iconst (v := 2) hx hb dX12_judge_69 (by decide) ?_
          refine lv_iadd hx hb dX12_judge_70 ?_
          obtain ⟨x17, hx17, h⟩ := sy_b_e h
          refine sy_top hx17 ?_
          obtain ⟨g18, h⟩ := sy_g_e h
          refine sy_iald fx X (sy_OModel_a31 ht) g18 dX12_judge_71 ?_
          refine lv_iconst (v := 1) hx hb dX12_judge_72 (by decide) ?_
          refine lv_icmp_ne (tgt := 80) hx hb dX12_judge_73 (by decide) (fun c19 => ?_) (fun c19 => ?_)
          · have h := sy_f c19 h
            refine lv_iconst (v := 0) hx hb dX12_judge_80 (by decide) ?_
            refine lv_icmp_eq (tgt := 86) hx hb dX12_judge_81 (by decide) (fun c20 => ?_) (fun c20 => ?_)
            · have h := sy_t c20 h
              obtain ⟨x21, hx21, h⟩ := sy_b_e h
              refine lv_iinc (v := x21) (lv' := [(1, .int x21), (2, .int x7), (0, .ref (sy_ad E 392))]) hx hb dX12_judge_86 hl (k := 2) rfl (by rw [hx21]; rfl) (by decide) rfl (fun ls hl => ?_)
              refine lv_goto (tgt := 15) hx hb dX12_judge_89 (by decide) ?_
              exact ih15 x21 S14 _ _ _ X (lv_sub hl [2, 0] rfl) h
            · have h := sy_f c20 h
              refine lv_iload_n hx hb dX12_judge_84 rfl (lv_at hl 2 rfl) ?_
              exact sy_iret fx X hr hlk h dX12_judge_85
          · have h := sy_t c19 h
            refine lv_iconst (v := 1) hx hb dX12_judge_76 (by decide) ?_
            refine lv_goto (tgt := 81) hx hb dX12_judge_77 (by decide) ?_
            refine lv_icmp_eq (tgt := 86) hx hb dX12_judge_81 (by decide) (fun c22 => ?_) (fun c22 => ?_)
            · have h := sy_t c22 h
              obtain ⟨x23, hx23, h⟩ := sy_b_e h
              refine lv_iinc (v := x23) (lv' := [(1, .int x23), (2, .int x7), (0, .ref (sy_ad E 392))]) hx hb dX12_judge_86 hl (k := 2) rfl (by rw [hx23]; rfl) (by decide) rfl (fun ls hl => ?_)
              refine lv_goto (tgt := 15) hx hb dX12_judge_89 (by decide) ?_
              exact ih15 x23 S14 _ _ _ X (lv_sub hl [2, 0] rfl) h
            · have h := sy_f c22 h
              refine lv_iload_n hx hb dX12_judge_84 rfl (lv_at hl 2 rfl) ?_
              exact sy_iret fx X hr hlk h dX12_judge_85
  unfold m_Model_judge at h
  refine lv_aload_n hx hb dX12_judge_0 rfl (lv_at hl 0 rfl) ?_
  refine sy_q11 fx X (sy_OModel_o ht) 22 (by decide) wm_174 (fun _ h9 => h9) rfl (sy_OModel_r22 ht) dX12_judge_1 ?_
  refine lv_iconst (v := 0) hx hb dX12_judge_4 (by decide) ?_
  refine lv_aload_n hx hb dX12_judge_5 rfl (lv_at hl 0 rfl) ?_
  refine sy_q11 fx X (sy_OModel_o ht) 23 (by decide) wm_175 (fun _ h9 => h9) rfl (sy_OModel_r23 ht) dX12_judge_6 ?_
  refine lv_iconst (v := 0) hx hb dX12_judge_9 (by decide) ?_
  obtain ⟨r2, S1, hc3, h⟩ := sy_c_e h
  refine sy_sv (rest := []) fx hA X hl.1 (c_Model_copy l (sy_OModel_a22 ht) (sy_OModel_a23 ht) hc3) cv_Model_copy wm_539 ⟨Nat.le_of_ble_eq_true rfl, Nat.le_of_ble_eq_true rfl, Nat.le_refl _, Nat.le_refl _⟩ rfl rfl (Nat.le_of_ble_eq_true rfl) dX12_judge_10 (fun H locs X => ?_)
  refine lv_iconst (v := 0) hx hb dX12_judge_13 (by decide) ?_
  refine lv_istore_n (lv' := [(1, .int 0), (0, .ref (sy_ad E 392))]) hx hb dX12_judge_14 rfl hl (by decide) rfl (fun ls hl => ?_)
  exact L_15 sy_F 0 S1 _ _ _ X (lv_sub hl [1, 0] rfl) h
