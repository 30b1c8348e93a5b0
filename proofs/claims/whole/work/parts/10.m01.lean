def m_Chain_holderAt (p0 : Int32) (S : sy_St) : sy_R := if p0 < 0 then (some ((-1), S)) else (if (S 379 5) ≤ p0 then (some ((-1), S)) else (if 6 ≤ p0 then (some ((-1), S)) else (sy_g (sy_in p0 6) <| some (S 383 p0.toNatClampNeg, S))))
theorem cv_Chain_holderAt : sy_cV RX1 yX1_holderAt cX1_holderAt 2 (some .int) 1 := ⟨wm_829, wm_830, wm_44, wm_831, by decide +kernel⟩
set_option maxRecDepth 100000 in
set_option maxHeartbeats 40000000 in
theorem c_Chain_holderAt (l : Launch) {E : sy_ET} (ht : sy_OChain E) {p0 : Int32} {S S' : sy_St} {r : Int32} (h : m_Chain_holderAt p0 S = some (r, S')) : sy_MI l yX1_holderAt cX1_holderAt 2 (some .int) 0 0 [.ref (sy_ad E 379), .int p0] E S r S' := by
  refine sy_MI_of RX1 pn_1 rfl (Nat.le_of_ble_eq_true rfl) (fun p e s m args below meth c A ls fx hr hlk hA X hl => ?_)
  have hx := fx.1
  have hb := fx.2.1
  have hown := fx.2.2.2.1
  have hts := fx.2.2.2.2
  have hl : lv_has ls 2 [(0, .ref (sy_ad E 379)), (1, .int p0)] := hl
  unfold m_Chain_holderAt at h
  refine lv_iload_n hx hb dX1_holderAt_0 rfl (lv_at hl 1 rfl) ?_
  refine lv_if_lt (tgt := 27) hx hb dX1_holderAt_1 (by decide) (fun c1 => ?_) (fun c1 => ?_)
  · have h := sy_t c1 h
    refine lv_iconst (v := (-1)) hx hb dX1_holderAt_27 (by decide) ?_
    exact sy_iret fx X hr hlk h dX1_holderAt_28
  · have h := sy_f c1 h
    refine lv_iload_n hx hb dX1_holderAt_4 rfl (lv_at hl 1 rfl) ?_
    refine lv_aload_n hx hb dX1_holderAt_5 rfl (lv_at hl 0 rfl) ?_
    refine sy_g1 fx X (sy_OChain_o ht) 5 (by decide) wm_803 (fun _ h9 => h9) rfl dX1_holderAt_6 ?_
    refine lv_icmp_ge (tgt := 27) hx hb dX1_holderAt_9 (by decide) (fun c2 => ?_) (fun c2 => ?_)
    · have h := sy_t c2 h
      refine lv_iconst (v := (-1)) hx hb dX1_holderAt_27 (by decide) ?_
      exact sy_iret fx X hr hlk h dX1_holderAt_28
    · have h := sy_f c2 h
      refine lv_iload_n hx hb dX1_holderAt_12 rfl (lv_at hl 1 rfl) ?_
      refine lv_bipush (v := 6) hx hb dX1_holderAt_13 (by decide) ?_
      refine lv_icmp_ge (tgt := 27) hx hb dX1_holderAt_15 (by decide) (fun c3 => ?_) (fun c3 => ?_)
      · have h := sy_t c3 h
        refine lv_iconst (v := (-1)) hx hb dX1_holderAt_27 (by decide) ?_
        exact sy_iret fx X hr hlk h dX1_holderAt_28
      · have h := sy_f c3 h
        refine lv_aload_n hx hb dX1_holderAt_18 rfl (lv_at hl 0 rfl) ?_
        refine sy_q1 fx X (sy_OChain_o ht) 4 (by decide) wm_144 (fun _ h9 => h9) rfl (sy_OChain_r4 ht) dX1_holderAt_19 ?_
        refine lv_iload_n hx hb dX1_holderAt_22 rfl (lv_at hl 1 rfl) ?_
        obtain ⟨g4, h⟩ := sy_g_e h
        refine sy_iald fx X (sy_OChain_a4 ht) g4 dX1_holderAt_23 ?_
        refine lv_goto (tgt := 28) hx hb dX1_holderAt_24 (by decide) ?_
        exact sy_iret fx X hr hlk h dX1_holderAt_28
def m_Debts_ofOne_B5 (k0 : Nat) (kk5 : Int32 → Int32 → Int32 → sy_St → sy_R) (y2 : Int32) (y3 : Int32) (y4 : Int32) (S : sy_St) : sy_R := if (S 1 8) ≤ y4 then (sy_g (sy_in y2 6) <| some (((S (k0 + 2) y2.toNatClampNeg) * (S 1 8)) - y3, S)) else (sy_g (sy_in y4 6) <| sy_b (y3 + (S (k0 + 2) y4.toNatClampNeg) : Int32) fun x4 => sy_b (y4 + 1 : Int32) fun x5 => kk5 y2 x4 x5 S)
def m_Debts_ofOne (k0 : Nat) (p1 : Int32) (S : sy_St) : sy_R := sy_fix (fun _ _ _ _ => none) (m_Debts_ofOne_B5 k0) sy_F p1 0 0 S
theorem cv_Debts_ofOne : sy_cV RX2 yX2_ofOne cX2_ofOne 5 (some .int) 2 := ⟨wm_861, wm_862, wm_52, wm_863, by decide +kernel⟩
set_option maxRecDepth 100000 in
set_option maxHeartbeats 40000000 in
theorem c_Debts_ofOne (l : Launch) {E : sy_ET} {k0 : Nat} (ht : sy_ODebts E) (h0 : sy_OSky E k0) {p1 : Int32} {S S' : sy_St} {r : Int32} (h : m_Debts_ofOne k0 p1 S = some (r, S')) : sy_MI l yX2_ofOne cX2_ofOne 5 (some .int) 0 0 [.ref (sy_ad E 388), .ref (sy_ad E k0), .int p1] E S r S' := by
  refine sy_MI_of RX2 pn_2 rfl (Nat.le_of_ble_eq_true rfl) (fun p e s m args below meth c A ls fx hr hlk hA X hl => ?_)
  have hx := fx.1
  have hb := fx.2.1
  have hown := fx.2.2.2.1
  have hts := fx.2.2.2.2
  have hl : lv_has ls 5 [(0, .ref (sy_ad E 388)), (1, .ref (sy_ad E k0)), (2, .int p1)] := hl
  have L_5 : ∀ (n5 : Nat) (y2 y3 y4 : Int32) (S : sy_St) (H : Heap) (locs : List Loc) (ls : Array Slot), sy_Wd E A s S H locs → lv_has ls 5 [(0, .ref (sy_ad E 388)), (1, .ref (sy_ad E k0)), (2, .int y2), (3, .int y3), (4, .int y4)] → sy_fix (fun _ _ _ _ => none) (m_Debts_ofOne_B5 k0) n5 y2 y3 y4 S = some (r, S') → W p l e (sy_rm 0 0) s m args below meth c H locs 0 0 (MQ below (sy_Qi E A r S') args s 0 0 A) (F0 m 5 ls []) := by
    intro n5
    induction n5 with
    | zero => intro y2 y3 y4 S H locs ls X hl h; have h9 : (none : sy_R) = some (r, S') := h; cases h9
    | succ n5 ih5 =>
      intro y2 y3 y4 S H locs ls X hl h
      have h : m_Debts_ofOne_B5 k0 (sy_fix (fun _ _ _ _ => none) (m_Debts_ofOne_B5 k0) n5) y2 y3 y4 S = some (r, S') := h
      unfold m_Debts_ofOne_B5 at h
      refine lv_iload hx hb dX2_ofOne_5 (lv_at hl 4 rfl) ?_
      refine lv_aload_n hx hb dX2_ofOne_7 rfl (lv_at hl 0 rfl) ?_
      refine sy_q2 fx X (sy_ODebts_o ht) 0 (by decide) wm_158 (fun _ h9 => h9) rfl (sy_ODebts_r0 ht) dX2_ofOne_8 ?_
      refine sy_g3 fx X (sy_OEdge_o (sy_ODebts_a0 ht)) 8 (by decide) wm_864 (fun _ h9 => h9) rfl dX2_ofOne_11 ?_
      refine lv_icmp_ge (tgt := 33) hx hb dX2_ofOne_14 (by decide) (fun c1 => ?_) (fun c1 => ?_)
      · have h := sy_t c1 h
        refine lv_aload_n hx hb dX2_ofOne_33 rfl (lv_at hl 1 rfl) ?_
        refine sy_q9 fx X (sy_OSky_o h0) 2 (by decide) wm_865 (fun _ h9 => h9) rfl (sy_OSky_r2 h0) dX2_ofOne_34 ?_
        refine lv_iload_n hx hb dX2_ofOne_37 rfl (lv_at hl 2 rfl) ?_
        obtain ⟨g2, h⟩ := sy_g_e h
        refine sy_iald fx X (sy_OSky_a2 h0) g2 dX2_ofOne_38 ?_
        refine lv_aload_n hx hb dX2_ofOne_39 rfl (lv_at hl 0 rfl) ?_
        refine sy_q2 fx X (sy_ODebts_o ht) 0 (by decide) wm_158 (fun _ h9 => h9) rfl (sy_ODebts_r0 ht) dX2_ofOne_40 ?_
        refine sy_g3 fx X (sy_OEdge_o (sy_ODebts_a0 ht)) 8 (by decide) wm_864 (fun _ h9 => h9) rfl dX2_ofOne_43 ?_
        refine lv_imul hx hb dX2_ofOne_46 ?_
        refine lv_iload_n hx hb dX2_ofOne_47 rfl (lv_at hl 3 rfl) ?_
        refine lv_isub hx hb dX2_ofOne_48 ?_
        exact sy_iret fx X hr hlk h dX2_ofOne_49
      · have h := sy_f c1 h
        refine lv_iload_n hx hb dX2_ofOne_17 rfl (lv_at hl 3 rfl) ?_
        refine lv_aload_n hx hb dX2_ofOne_18 rfl (lv_at hl 1 rfl) ?_
        refine sy_q9 fx X (sy_OSky_o h0) 2 (by decide) wm_865 (fun _ h9 => h9) rfl (sy_OSky_r2 h0) dX2_ofOne_19 ?_
        refine lv_iload hx hb dX2_ofOne_22 (lv_at hl 4 rfl) ?_
        obtain ⟨g3, h⟩ := sy_g_e h
        refine sy_iald fx X (sy_OSky_a2 h0) g3 dX2_ofOne_24 ?_
        refine lv_iadd hx hb dX2_ofOne_25 ?_
        obtain ⟨x4, hx4, h⟩ := sy_b_e h
        refine sy_top hx4 ?_
        refine lv_istore_n (lv' := [(3, .int x4), (0, .ref (sy_ad E 388)), (1, .ref (sy_ad E k0)), (2, .int y2), (4, .int y4)]) hx hb dX2_ofOne_26 rfl hl (by decide) rfl (fun ls hl => ?_)
        obtain ⟨x5, hx5, h⟩ := sy_b_e h
        refine lv_iinc (v := x5) (lv' := [(4, .int x5), (3, .int x4), (0, .ref (sy_ad E 388)), (1, .ref (sy_ad E k0)), (2, .int y2)]) hx hb dX2_ofOne_27 hl (k := 4) rfl (by rw [hx5]; rfl) (by decide) rfl (fun ls hl => ?_)
        refine lv_goto (tgt := 5) hx hb dX2_ofOne_30 (by decide) ?_
        exact ih5 y2 x4 x5 S _ _ _ X (lv_sub hl [2, 3, 4, 1, 0] rfl) h
  unfold m_Debts_ofOne at h
  refine lv_iconst (v := 0) hx hb dX2_ofOne_0 (by decide) ?_
  refine lv_istore_n (lv' := [(3, .int 0), (0, .ref (sy_ad E 388)), (1, .ref (sy_ad E k0)), (2, .int p1)]) hx hb dX2_ofOne_1 rfl hl (by decide) rfl (fun ls hl => ?_)
  refine lv_iconst (v := 0) hx hb dX2_ofOne_2 (by decide) ?_
  refine lv_istore (lv' := [(4, .int 0), (3, .int 0), (0, .ref (sy_ad E 388)), (1, .ref (sy_ad E k0)), (2, .int p1)]) hx hb dX2_ofOne_3 hl (by decide) rfl (fun ls hl => ?_)
  exact L_5 sy_F p1 0 0 S _ _ _ X (lv_sub hl [2, 3, 4, 1, 0] rfl) h
def m_Debts_fewestPayments_B41 (kk26 : Int32 → Int32 → sy_St → sy_R) (k0 : Nat) (kk41 : Int32 → Int32 → Int32 → sy_St → sy_R) (y2 : Int32) (y3 : Int32) (y4 : Int32) (S : sy_St) : sy_R := if (S 1 8) ≤ y4 then (sy_g (sy_in y3 64) <| if (S 389 y3.toNatClampNeg) = 0 then (sy_g (sy_in y3 64) <| sy_g (sy_in y3 64) <| sy_b (sy_up S 390 y3.toNatClampNeg ((S 390 y3.toNatClampNeg) + 1)) fun S15 => sy_b (y3 + 1 : Int32) fun x16 => kk26 y2 x16 S15) else (sy_b (y3 + 1 : Int32) fun x12 => kk26 y2 x12 S)) else (sy_b (y3 &&& ((1 <<< (y4 &&& 31)) ^^^ (-1)) : Int32) fun x17 => if x17 = y3 then (sy_b (y4 + 1 : Int32) fun x30 => kk41 y2 y3 x30 S) else (sy_g (sy_in x17 64) <| sy_c (m_Debts_ofOne k0 y4 S) fun r21 S20 => sy_g (sy_in y3 64) <| sy_b (sy_up S20 389 y3.toNatClampNeg ((S 389 x17.toNatClampNeg) + r21)) fun S24 => sy_g (sy_in y3 64) <| sy_g (sy_in x17 64) <| sy_g (sy_in y3 64) <| sy_b (sy_up S24 390 y3.toNatClampNeg (sy_max (S24 390 y3.toNatClampNeg) (S24 390 x17.toNatClampNeg))) fun S28 => sy_b (y4 + 1 : Int32) fun x29 => kk41 y2 y3 x29 S28))
def m_Debts_fewestPayments_B26 (k0 : Nat) (kk26 : Int32 → Int32 → sy_St → sy_R) (y2 : Int32) (y3 : Int32) (S : sy_St) : sy_R := if y2 ≤ y3 then (sy_b (y2 - 1 : Int32) fun x5 => sy_g (sy_in x5 64) <| some ((S 1 8) - (S 390 x5.toNatClampNeg), S)) else (sy_g (sy_in y3 64) <| sy_b (sy_up S 390 y3.toNatClampNeg 0) fun S8 => sy_fix (fun _ _ _ _ => none) (m_Debts_fewestPayments_B41 kk26 k0) sy_F y2 y3 0 S8)
def m_Debts_fewestPayments (k0 : Nat) (S : sy_St) : sy_R := sy_b (1 <<< ((S 1 8) &&& 31) : Int32) fun x1 => sy_b (sy_up S 389 ((0 : Int32).toNatClampNeg) 0) fun S2 => sy_b (sy_up S2 390 ((0 : Int32).toNatClampNeg) 0) fun S3 => sy_fix (fun _ _ _ => none) (m_Debts_fewestPayments_B26 k0) sy_F x1 1 S3
theorem cv_Debts_fewestPayments : sy_cV RX2 yX2_fewestPayments cX2_fewestPayments 6 (some .int) 1 := ⟨wm_879, wm_880, wm_52, wm_881, by decide +kernel⟩
set_option maxRecDepth 100000 in
set_option maxHeartbeats 40000000 in
theorem c_Debts_fewestPayments (l : Launch) {E : sy_ET} {k0 : Nat} (ht : sy_ODebts E) (h0 : sy_OSky E k0) {S S' : sy_St} {r : Int32} (h : m_Debts_fewestPayments k0 S = some (r, S')) : sy_MI l yX2_fewestPayments cX2_fewestPayments 6 (some .int) 1 30 [.ref (sy_ad E 388), .ref (sy_ad E k0)] E S r S' := by
  refine sy_MI_of RX2 pn_2 rfl (Nat.le_of_ble_eq_true rfl) (fun p e s m args below meth c A ls fx hr hlk hA X hl => ?_)
  have hx := fx.1
  have hb := fx.2.1
  have hown := fx.2.2.2.1
  have hts := fx.2.2.2.2
  have hl : lv_has ls 6 [(0, .ref (sy_ad E 388)), (1, .ref (sy_ad E k0))] := hl
  have L_26 : ∀ (n26 : Nat) (y2 y3 : Int32) (S : sy_St) (H : Heap) (locs : List Loc) (ls : Array Slot), sy_Wd E A s S H locs → lv_has ls 6 [(0, .ref (sy_ad E 388)), (1, .ref (sy_ad E k0)), (2, .int y2), (3, .int y3)] → sy_fix (fun _ _ _ => none) (m_Debts_fewestPayments_B26 k0) n26 y2 y3 S = some (r, S') → W p l e (sy_rm 1 30) s m args below meth c H locs 0 0 (MQ below (sy_Qi E A r S') args s 0 0 A) (F0 m 26 ls []) := by
    intro n26
    induction n26 with
    | zero => intro y2 y3 S H locs ls X hl h; have h9 : (none : sy_R) = some (r, S') := h; cases h9
    | succ n26 ih26 =>
      have L_41 : ∀ (n41 : Nat) (y2 y3 y4 : Int32) (S : sy_St) (H : Heap) (locs : List Loc) (ls : Array Slot), sy_Wd E A s S H locs → lv_has ls 6 [(0, .ref (sy_ad E 388)), (1, .ref (sy_ad E k0)), (2, .int y2), (3, .int y3), (4, .int y4)] → sy_fix (fun _ _ _ _ => none) (m_Debts_fewestPayments_B41 (sy_fix (fun _ _ _ => none) (m_Debts_fewestPayments_B26 k0) n26) k0) n41 y2 y3 y4 S = some (r, S') → W p l e (sy_rm 1 30) s m args below meth c H locs 0 0 (MQ below (sy_Qi E A r S') args s 0 0 A) (F0 m 41 ls []) := by
        intro n41
        induction n41 with
        | zero => intro y2 y3 y4 S H locs ls X hl h; have h9 : (none : sy_R) = some (r, S') := h; cases h9
        | succ n41 ih41 =>
          intro y2 y3 y4 S H locs ls X hl h
          have h : m_Debts_fewestPayments_B41 (sy_fix (fun _ _ _ => none) (m_Debts_fewestPayments_B26 k0) n26) k0 (sy_fix (fun _ _ _ _ => none) (m_Debts_fewestPayments_B41 (sy_fix (fun _ _ _ => none) (m_Debts_fewestPayments_B26 k0) n26) k0) n41) y2 y3 y4 S = some (r, S') := h
          unfold m_Debts_fewestPayments_B41 at h
          refine lv_iload hx hb dX2_fewestPayments_41 (lv_at hl 4 rfl) ?_
          refine lv_aload_n hx hb dX2_fewestPayments_43 rfl (lv_at hl 0 rfl) ?_
          refine sy_q2 fx X (sy_ODebts_o ht) 0 (by decide) wm_158 (fun _ h9 => h9) rfl (sy_ODebts_r0 ht) dX2_fewestPayments_44 ?_
          refine sy_g3 fx X (sy_OEdge_o (sy_ODebts_a0 ht)) 8 (by decide) wm_864 (fun _ h9 => h9) rfl dX2_fewestPayments_47 ?_
          refine lv_icmp_ge (tgt := 121) hx hb dX2_fewestPayments_50 (by decide) (fun c9 => ?_) (fun c9 => ?_)
          · have h := sy_t c9 h
            refine lv_aload_n hx hb dX2_fewestPayments_121 rfl (lv_at hl 0 rfl) ?_
            refine sy_q2 fx X (sy_ODebts_o ht) 1 (by decide) wm_156 (fun _ h9 => h9) rfl (sy_ODebts_r1 ht) dX2_fewestPayments_122 ?_
            refine lv_iload_n hx hb dX2_fewestPayments_125 rfl (lv_at hl 3 rfl) ?_
            obtain ⟨g10, h⟩ := sy_g_e h
            refine sy_iald fx X (sy_ODebts_a1 ht) g10 dX2_fewestPayments_126 ?_
            refine lv_if_ne (tgt := 140) hx hb dX2_fewestPayments_127 (by decide) (fun c11 => ?_) (fun c11 => ?_)
            · have h := sy_f c11 h
              obtain ⟨x12, hx12, h⟩ := sy_b_e h
              refine lv_iinc (v := x12) (lv' := [(3, .int x12), (0, .ref (sy_ad E 388)), (1, .ref (sy_ad E k0)), (2, .int y2), (4, .int y4)]) hx hb dX2_fewestPayments_140 hl (k := 3) rfl (by rw [hx12]; rfl) (by decide) rfl (fun ls hl => ?_)
              refine lv_goto (tgt := 26) hx hb dX2_fewestPayments_143 (by decide) ?_
              exact ih26 y2 x12 S _ _ _ X (lv_sub hl [1, 2, 3, 0] rfl) h
            · have h := sy_t c11 h
              refine lv_aload_n hx hb dX2_fewestPayments_130 rfl (lv_at hl 0 rfl) ?_
              refine sy_q2 fx X (sy_ODebts_o ht) 2 (by decide) wm_157 (fun _ h9 => h9) rfl (sy_ODebts_r2 ht) dX2_fewestPayments_131 ?_
              refine lv_iload_n hx hb dX2_fewestPayments_134 rfl (lv_at hl 3 rfl) ?_
              refine lv_dup2_11 hx hb dX2_fewestPayments_135 rfl rfl ?_
              obtain ⟨g13, h⟩ := sy_g_e h
              refine sy_iald fx X (sy_ODebts_a2 ht) g13 dX2_fewestPayments_136 ?_
              refine lv_iconst (v := 1) hx hb dX2_fewestPayments_137 (by decide) ?_
              refine lv_iadd hx hb dX2_fewestPayments_138 ?_
              obtain ⟨g14, h⟩ := sy_g_e h
              obtain ⟨S15, hS15, h⟩ := sy_b_e h
              refine sy_iast fx X (sy_ODebts_a2 ht) g14 hS15 dX2_fewestPayments_139 (fun H locs X => ?_)
              obtain ⟨x16, hx16, h⟩ := sy_b_e h
              refine lv_iinc (v := x16) (lv' := [(3, .int x16), (0, .ref (sy_ad E 388)), (1, .ref (sy_ad E k0)), (2, .int y2), (4, .int y4)]) hx hb dX2_fewestPayments_140 hl (k := 3) rfl (by rw [hx16]; rfl) (by decide) rfl (fun ls hl => ?_)
              refine lv_goto (tgt := 26) hx hb dX2_fewestPayments_143 (by decide) ?_
              exact ih26 y2 x16 S15 _ _ _ X (lv_sub hl [1, 2, 3, 0] rfl) h
          · have h := sy_f c9 h
            refine lv_iload_n hx hb dX2_fewestPayments_53 rfl (lv_at hl 3 rfl) ?_
            refine lv_iconst (v := 1) hx hb dX2_fewestPayments_54 (by decide) ?_
            refine lv_iload hx hb dX2_fewestPayments_55 (lv_at hl 4 rfl) ?_
            refine lv_ishl hx hb dX2_fewestPayments_57 ?_
            refine lv_iconst (v := (-1)) hx hb dX2_fewestPayments_58 (by decide) ?_
            refine lv_ixor hx hb dX2_fewestPayments_59 ?_
            refine lv_iand hx hb dX2_fewestPayments_60 ?_
            obtain ⟨x17, hx17, h⟩ := sy_b_e h
            refine sy_top hx17 ?_
            refine lv_istore (lv' := [(5, .int x17), (0, .ref (sy_ad E 388)), (1, .ref (sy_ad E k0)), (2, .int y2), (3, .int y3), (4, .int y4)]) hx hb dX2_fewestPayments_61 hl (by decide) rfl (fun ls hl => ?_)
            refine lv_iload hx hb dX2_fewestPayments_63 (lv_at hl 0 rfl) ?_
            refine lv_iload_n hx hb dX2_fewestPayments_65 rfl (lv_at hl 4 rfl) ?_
            refine lv_icmp_ne (tgt := 72) hx hb dX2_fewestPayments_66 (by decide) (fun c18 => ?_) (fun c18 => ?_)
            · have h := sy_f c18 h
              refine lv_aload_n hx hb dX2_fewestPayments_72 rfl (lv_at hl 1 rfl) ?_
              refine sy_q2 fx X (sy_ODebts_o ht) 1 (by decide) wm_156 (fun _ h9 => h9) rfl (sy_ODebts_r1 ht) dX2_fewestPayments_73 ?_
              refine lv_iload_n hx hb dX2_fewestPayments_76 rfl (lv_at hl 4 rfl) ?_
              refine lv_aload_n hx hb dX2_fewestPayments_77 rfl (lv_at hl 1 rfl) ?_
              refine sy_q2 fx X (sy_ODebts_o ht) 1 (by decide) wm_156 (fun _ h9 => h9) rfl (sy_ODebts_r1 ht) dX2_fewestPayments_78 ?_
              refine lv_iload hx hb dX2_fewestPayments_81 (lv_at hl 0 rfl) ?_
              obtain ⟨g19, h⟩ := sy_g_e h
              refine sy_iald fx X (sy_ODebts_a1 ht) g19 dX2_fewestPayments_83 ?_
              refine lv_aload_n hx hb dX2_fewestPayments_84 rfl (lv_at hl 1 rfl) ?_
              refine lv_aload_n hx hb dX2_fewestPayments_85 rfl (lv_at hl 2 rfl) ?_
              refine lv_iload hx hb dX2_fewestPayments_86 (lv_at hl 5 rfl) ?_
              obtain ⟨r21, S20, hc22, h⟩ := sy_c_e h
              refine sy_vi (rest := [.int (S 389 x17.toNatClampNeg), .int y3, .ref (sy_ad E 389)]) fx hA X hl.1 (sy_ODebts_o ht) (sy_en2 (sy_ODebts_o ht).2) rfl (c_Debts_ofOne l ht h0 hc22) cv_Debts_ofOne wm_883 ⟨Nat.le_of_ble_eq_true rfl, Nat.le_of_ble_eq_true rfl, Nat.le_refl _, Nat.le_refl _⟩ rfl rfl (Nat.le_of_ble_eq_true rfl) dX2_fewestPayments_88 (fun H locs X => ?_)
              refine lv_iadd hx hb dX2_fewestPayments_91 ?_
              obtain ⟨g23, h⟩ := sy_g_e h
              obtain ⟨S24, hS24, h⟩ := sy_b_e h
              refine sy_iast fx X (sy_ODebts_a1 ht) g23 hS24 dX2_fewestPayments_92 (fun H locs X => ?_)
              refine lv_aload_n hx hb dX2_fewestPayments_93 rfl (lv_at hl 1 rfl) ?_
              refine sy_q2 fx X (sy_ODebts_o ht) 2 (by decide) wm_157 (fun _ h9 => h9) rfl (sy_ODebts_r2 ht) dX2_fewestPayments_94 ?_
              refine lv_iload_n hx hb dX2_fewestPayments_97 rfl (lv_at hl 4 rfl) ?_
              refine lv_aload_n hx hb dX2_fewestPayments_98 rfl (lv_at hl 1 rfl) ?_
              refine sy_q2 fx X (sy_ODebts_o ht) 2 (by decide) wm_157 (fun _ h9 => h9) rfl (sy_ODebts_r2 ht) dX2_fewestPayments_99 ?_
              refine lv_iload_n hx hb dX2_fewestPayments_102 rfl (lv_at hl 4 rfl) ?_
              obtain ⟨g25, h⟩ := sy_g_e h
              refine sy_iald fx X (sy_ODebts_a2 ht) g25 dX2_fewestPayments_103 ?_
              refine lv_aload_n hx hb dX2_fewestPayments_104 rfl (lv_at hl 1 rfl) ?_
              refine sy_q2 fx X (sy_ODebts_o ht) 2 (by decide) wm_157 (fun _ h9 => h9) rfl (sy_ODebts_r2 ht) dX2_fewestPayments_105 ?_
              refine lv_iload hx hb dX2_fewestPayments_108 (lv_at hl 0 rfl) ?_
              obtain ⟨g26, h⟩ := sy_g_e h
              refine sy_iald fx X (sy_ODebts_a2 ht) g26 dX2_fewestPayments_110 ?_
              refine va_mmax (rest := [.int y3, .ref (sy_ad E 390)]) hx hb (fx.2.2.1.trans hl.1.symm) hown (hts _ wm_882) (hts _ wm_413) (hts _ wm_414) (hts _ wm_415) (Nat.le_of_ble_eq_true rfl) (Nat.le_of_ble_eq_true rfl) (Nat.le_refl _) (Nat.le_refl _) dX2_fewestPayments_111 ?_
              obtain ⟨g27, h⟩ := sy_g_e h
              obtain ⟨S28, hS28, h⟩ := sy_b_e h
              refine sy_iast fx X (sy_ODebts_a2 ht) g27 hS28 dX2_fewestPayments_114 (fun H locs X => ?_)
              obtain ⟨x29, hx29, h⟩ := sy_b_e h
              refine lv_iinc (v := x29) (lv' := [(4, .int x29), (5, .int x17), (0, .ref (sy_ad E 388)), (1, .ref (sy_ad E k0)), (2, .int y2), (3, .int y3)]) hx hb dX2_fewestPayments_115 hl (k := 5) rfl (by rw [hx29]; rfl) (by decide) rfl (fun ls hl => ?_)
              refine lv_goto (tgt := 41) hx hb dX2_fewestPayments_118 (by decide) ?_
              exact ih41 y2 y3 x29 S28 _ _ _ X (lv_sub hl [2, 3, 4, 5, 0] rfl) h
            · have h := sy_t c18 h
              refine lv_goto (tgt := 115) hx hb dX2_fewestPayments_69 (by decide) ?_
              obtain ⟨x30, hx30, h⟩ := sy_b_e h
              refine lv_iinc (v := x30) (lv' := [(4, .int x30), (5, .int x17), (0, .ref (sy_ad E 388)), (1, .ref (sy_ad E k0)), (2, .int y2), (3, .int y3)]) hx hb dX2_fewestPayments_115 hl (k := 5) rfl (by rw [hx30]; rfl) (by decide) rfl (fun ls hl => ?_)
              refine lv_goto (tgt := 41) hx hb dX2_fewestPayments_118 (by decide) ?_
              exact ih41 y2 y3 x30 S _ _ _ X (lv_sub hl [2, 3, 4, 5, 0] rfl) h
      intro y2 y3 S H locs ls X hl h
      have h : m_Debts_fewestPayments_B26 k0 (sy_fix (fun _ _ _ => none) (m_Debts_fewestPayments_B26 k0) n26) y2 y3 S = some (r, S') := h
      unfold m_Debts_fewestPayments_B26 at h
      refine lv_iload_n hx hb dX2_fewestPayments_26 rfl (lv_at hl 3 rfl) ?_
      refine lv_iload_n hx hb dX2_fewestPayments_27 rfl (lv_at hl 2 rfl) ?_
      refine lv_icmp_ge (tgt := 146) hx hb dX2_fewestPayments_28 (by decide) (fun c4 => ?_) (fun c4 => ?_)
      · have h := sy_t c4 h
        refine lv_aload_n hx hb dX2_fewestPayments_146 rfl (lv_at hl 0 rfl) ?_
        refine sy_q2 fx X (sy_ODebts_o ht) 0 (by decide) wm_158 (fun _ h9 => h9) rfl (sy_ODebts_r0 ht) dX2_fewestPayments_147 ?_
        refine sy_g3 fx X (sy_OEdge_o (sy_ODebts_a0 ht)) 8 (by decide) wm_864 (fun _ h9 => h9) rfl dX2_fewestPayments_150 ?_
        refine lv_aload_n hx hb dX2_fewestPayments_153 rfl (lv_at hl 0 rfl) ?_
        refine sy_q2 fx X (sy_ODebts_o ht) 2 (by decide) wm_157 (fun _ h9 => h9) rfl (sy_ODebts_r2 ht) dX2_fewestPayments_154 ?_
        refine lv_iload_n hx hb dX2_fewestPayments_157 rfl (lv_at hl 2 rfl) ?_
        refine lv_iconst (v := 1) hx hb dX2_fewestPayments_158 (by decide) ?_
        refine lv_isub hx hb dX2_fewestPayments_159 ?_
        obtain ⟨x5, hx5, h⟩ := sy_b_e h
        refine sy_top hx5 ?_
        obtain ⟨g6, h⟩ := sy_g_e h
        refine sy_iald fx X (sy_ODebts_a2 ht) g6 dX2_fewestPayments_160 ?_
        refine lv_isub hx hb dX2_fewestPayments_161 ?_
        exact sy_iret fx X hr hlk h dX2_fewestPayments_162
      · have h := sy_f c4 h
        refine lv_aload_n hx hb dX2_fewestPayments_31 rfl (lv_at hl 0 rfl) ?_
        refine sy_q2 fx X (sy_ODebts_o ht) 2 (by decide) wm_157 (fun _ h9 => h9) rfl (sy_ODebts_r2 ht) dX2_fewestPayments_32 ?_
        refine lv_iload_n hx hb dX2_fewestPayments_35 rfl (lv_at hl 3 rfl) ?_
        refine lv_iconst (v := 0) hx hb dX2_fewestPayments_36 (by decide) ?_
        obtain ⟨g7, h⟩ := sy_g_e h
        obtain ⟨S8, hS8, h⟩ := sy_b_e h
        refine sy_iast fx X (sy_ODebts_a2 ht) g7 hS8 dX2_fewestPayments_37 (fun H locs X => ?_)
        refine lv_iconst (v := 0) hx hb dX2_fewestPayments_38 (by decide) ?_
        refine lv_istore (lv' := [(4, .int 0), (0, .ref (sy_ad E 388)), (1, .ref (sy_ad E k0)), (2, .int y2), (3, .int y3)]) hx hb dX2_fewestPayments_39 hl (by decide) rfl (fun ls hl => ?_)
        exact L_41 sy_F y2 y3 0 S8 _ _ _ X (lv_sub hl [1, 2, 3, 4, 0] rfl) h
  unfold m_Debts_fewestPayments at h
  refine lv_iconst (v := 1) hx hb dX2_fewestPayments_0 (by decide) ?_
  refine lv_aload_n hx hb dX2_fewestPayments_1 rfl (lv_at hl 0 rfl) ?_
  refine sy_q2 fx X (sy_ODebts_o ht) 0 (by decide) wm_158 (fun _ h9 => h9) rfl (sy_ODebts_r0 ht) dX2_fewestPayments_2 ?_
  refine sy_g3 fx X (sy_OEdge_o (sy_ODebts_a0 ht)) 8 (by decide) wm_864 (fun _ h9 => h9) rfl dX2_fewestPayments_5 ?_
  refine lv_ishl hx hb dX2_fewestPayments_8 ?_
  obtain ⟨x1, hx1, h⟩ := sy_b_e h
  refine sy_top hx1 ?_
  refine lv_istore_n (lv' := [(2, .int x1), (0, .ref (sy_ad E 388)), (1, .ref (sy_ad E k0))]) hx hb dX2_fewestPayments_9 rfl hl (by decide) rfl (fun ls hl => ?_)
  refine lv_aload_n hx hb dX2_fewestPayments_10 rfl (lv_at hl 1 rfl) ?_
  refine sy_q2 fx X (sy_ODebts_o ht) 1 (by decide) wm_156 (fun _ h9 => h9) rfl (sy_ODebts_r1 ht) dX2_fewestPayments_11 ?_
  refine lv_iconst (v := 0) hx hb dX2_fewestPayments_14 (by decide) ?_
  refine lv_iconst (v := 0) hx hb dX2_fewestPayments_15 (by decide) ?_
  obtain ⟨S2, hS2, h⟩ := sy_b_e h
  refine sy_iast fx X (sy_ODebts_a1 ht) (by decide) hS2 dX2_fewestPayments_16 (fun H locs X => ?_)
  refine lv_aload_n hx hb dX2_fewestPayments_17 rfl (lv_at hl 1 rfl) ?_
  refine sy_q2 fx X (sy_ODebts_o ht) 2 (by decide) wm_157 (fun _ h9 => h9) rfl (sy_ODebts_r2 ht) dX2_fewestPayments_18 ?_
  refine lv_iconst (v := 0) hx hb dX2_fewestPayments_21 (by decide) ?_
  refine lv_iconst (v := 0) hx hb dX2_fewestPayments_22 (by decide) ?_
  obtain ⟨S3, hS3, h⟩ := sy_b_e h
  refine sy_iast fx X (sy_ODebts_a2 ht) (by decide) hS3 dX2_fewestPayments_23 (fun H locs X => ?_)
  refine lv_iconst (v := 1) hx hb dX2_fewestPayments_24 (by decide) ?_
  refine lv_istore_n (lv' := [(3, .int 1), (2, .int x1), (0, .ref (sy_ad E 388)), (1, .ref (sy_ad E k0))]) hx hb dX2_fewestPayments_25 rfl hl (by decide) rfl (fun ls hl => ?_)
  exact L_26 sy_F x1 1 S3 _ _ _ X (lv_sub hl [2, 3, 1, 0] rfl) h
def m_Debts_isOfLine_B5 (kk5 : Int32 → Int32 → Int32 → sy_St → sy_R) (y2 : Int32) (y3 : Int32) (y4 : Int32) (S : sy_St) : sy_R := if 6 ≤ y4 then (some (0, S)) else (sy_c (m_Edge_isPerson 1 y3 S) fun r3 S2 => if r3 = 0 then (some (0, S2)) else (if y3 = y2 then (some (1, S2)) else (sy_g (sy_in y3 6) <| sy_b (S2 7 y3.toNatClampNeg : Int32) fun x8 => sy_b (y4 + 1 : Int32) fun x9 => kk5 y2 x8 x9 S2)))
def m_Debts_isOfLine (p0 : Int32) (p1 : Int32) (S : sy_St) : sy_R := sy_fix (fun _ _ _ _ => none) (m_Debts_isOfLine_B5) sy_F p1 p0 0 S
theorem cv_Debts_isOfLine : sy_cV RX2 yX2_isOfLine cX2_isOfLine 5 (some .boolean) 2 := ⟨wm_897, wm_898, wm_52, wm_899, by decide +kernel⟩
set_option maxRecDepth 100000 in
set_option maxHeartbeats 40000000 in
theorem c_Debts_isOfLine (l : Launch) {E : sy_ET} (ht : sy_ODebts E) {p0 : Int32} {p1 : Int32} {S S' : sy_St} {r : Int32} (h : m_Debts_isOfLine p0 p1 S = some (r, S')) : sy_MI l yX2_isOfLine cX2_isOfLine 5 (some .boolean) 1 21 [.ref (sy_ad E 388), .int p0, .int p1] E S r S' := by
  refine sy_MI_of RX2 pn_2 rfl (Nat.le_of_ble_eq_true rfl) (fun p e s m args below meth c A ls fx hr hlk hA X hl => ?_)
  have hx := fx.1
  have hb := fx.2.1
  have hown := fx.2.2.2.1
  have hts := fx.2.2.2.2
  have hl : lv_has ls 5 [(0, .ref (sy_ad E 388)), (1, .int p0), (2, .int p1)] := hl
  have L_5 : ∀ (n5 : Nat) (y2 y3 y4 : Int32) (S : sy_St) (H : Heap) (locs : List Loc) (ls : Array Slot), sy_Wd E A s S H locs → lv_has ls 5 [(0, .ref (sy_ad E 388)), (2, .int y2), (3, .int y3), (4, .int y4)] → sy_fix (fun _ _ _ _ => none) (m_Debts_isOfLine_B5) n5 y2 y3 y4 S = some (r, S') → W p l e (sy_rm 1 21) s m args below meth c H locs 0 0 (MQ below (sy_Qi E A r S') args s 0 0 A) (F0 m 5 ls []) := by
    intro n5
    induction n5 with
    | zero => intro y2 y3 y4 S H locs ls X hl h; have h9 : (none : sy_R) = some (r, S') := h; cases h9
    | succ n5 ih5 =>
      intro y2 y3 y4 S H locs ls X hl h
      have h : m_Debts_isOfLine_B5 (sy_fix (fun _ _ _ _ => none) (m_Debts_isOfLine_B5) n5) y2 y3 y4 S = some (r, S') := h
      unfold m_Debts_isOfLine_B5 at h
      refine lv_iload hx hb dX2_isOfLine_5 (lv_at hl 3 rfl) ?_
      refine lv_bipush (v := 6) hx hb dX2_isOfLine_7 (by decide) ?_
      refine lv_icmp_ge (tgt := 46) hx hb dX2_isOfLine_9 (by decide) (fun c1 => ?_) (fun c1 => ?_)
      · have h := sy_t c1 h
        refine lv_iconst (v := 0) hx hb dX2_isOfLine_46 (by decide) ?_
        exact sy_zret fx X hr hlk (Or.inl rfl) h dX2_isOfLine_47
      · have h := sy_f c1 h
        refine lv_aload_n hx hb dX2_isOfLine_12 rfl (lv_at hl 0 rfl) ?_
        refine sy_q2 fx X (sy_ODebts_o ht) 0 (by decide) wm_158 (fun _ h9 => h9) rfl (sy_ODebts_r0 ht) dX2_isOfLine_13 ?_
        refine lv_iload_n hx hb dX2_isOfLine_16 rfl (lv_at hl 2 rfl) ?_
        obtain ⟨r3, S2, hc4, h⟩ := sy_c_e h
        refine sy_vi (rest := []) fx hA X hl.1 (sy_OEdge_o (sy_ODebts_a0 ht)) (sy_en3 (sy_OEdge_o (sy_ODebts_a0 ht)).2) rfl (c_Edge_isPerson l (sy_ODebts_a0 ht) hc4) cv_Edge_isPerson wm_901 ⟨Nat.le_of_ble_eq_true rfl, Nat.le_of_ble_eq_true rfl, Nat.le_refl _, Nat.le_refl _⟩ rfl rfl (Nat.le_of_ble_eq_true rfl) dX2_isOfLine_17 (fun H locs X => ?_)
        refine lv_if_eq (tgt := 46) hx hb dX2_isOfLine_20 (by decide) (fun c5 => ?_) (fun c5 => ?_)
        · have h := sy_t c5 h
          refine lv_iconst (v := 0) hx hb dX2_isOfLine_46 (by decide) ?_
          exact sy_zret fx X hr hlk (Or.inl rfl) h dX2_isOfLine_47
        · have h := sy_f c5 h
          refine lv_iload_n hx hb dX2_isOfLine_23 rfl (lv_at hl 2 rfl) ?_
          refine lv_iload_n hx hb dX2_isOfLine_24 rfl (lv_at hl 1 rfl) ?_
          refine lv_icmp_ne (tgt := 30) hx hb dX2_isOfLine_25 (by decide) (fun c6 => ?_) (fun c6 => ?_)
          · have h := sy_f c6 h
            refine lv_aload_n hx hb dX2_isOfLine_30 rfl (lv_at hl 0 rfl) ?_
            refine sy_q2 fx X (sy_ODebts_o ht) 0 (by decide) wm_158 (fun _ h9 => h9) rfl (sy_ODebts_r0 ht) dX2_isOfLine_31 ?_
            refine sy_q3 fx X (sy_OEdge_o (sy_ODebts_a0 ht)) 5 (by decide) wm_900 (fun _ h9 => h9) rfl (sy_OEdge_r5 (sy_ODebts_a0 ht)) dX2_isOfLine_34 ?_
            refine lv_iload_n hx hb dX2_isOfLine_37 rfl (lv_at hl 2 rfl) ?_
            obtain ⟨g7, h⟩ := sy_g_e h
            refine sy_iald fx X (sy_OEdge_a5 (sy_ODebts_a0 ht)) g7 dX2_isOfLine_38 ?_
            obtain ⟨x8, hx8, h⟩ := sy_b_e h
            refine sy_top hx8 ?_
            refine lv_istore_n (lv' := [(3, .int x8), (0, .ref (sy_ad E 388)), (2, .int y2), (4, .int y4)]) hx hb dX2_isOfLine_39 rfl hl (by decide) rfl (fun ls hl => ?_)
            obtain ⟨x9, hx9, h⟩ := sy_b_e h
            refine lv_iinc (v := x9) (lv' := [(4, .int x9), (3, .int x8), (0, .ref (sy_ad E 388)), (2, .int y2)]) hx hb dX2_isOfLine_40 hl (k := 3) rfl (by rw [hx9]; rfl) (by decide) rfl (fun ls hl => ?_)
            refine lv_goto (tgt := 5) hx hb dX2_isOfLine_43 (by decide) ?_
            exact ih5 y2 x8 x9 S2 _ _ _ X (lv_sub hl [2, 3, 1, 0] rfl) h
          · have h := sy_t c6 h
            refine lv_iconst (v := 1) hx hb dX2_isOfLine_28 (by decide) ?_
            exact sy_zret fx X hr hlk (Or.inr rfl) h dX2_isOfLine_29
  unfold m_Debts_isOfLine at h
  refine lv_iload_n hx hb dX2_isOfLine_0 rfl (lv_at hl 1 rfl) ?_
  refine lv_istore_n (lv' := [(3, .int p0), (0, .ref (sy_ad E 388)), (1, .int p0), (2, .int p1)]) hx hb dX2_isOfLine_1 rfl hl (by decide) rfl (fun ls hl => ?_)
  refine lv_iconst (v := 0) hx hb dX2_isOfLine_2 (by decide) ?_
  refine lv_istore (lv' := [(4, .int 0), (3, .int p0), (0, .ref (sy_ad E 388)), (1, .int p0), (2, .int p1)]) hx hb dX2_isOfLine_3 hl (by decide) rfl (fun ls hl => ?_)
  exact L_5 sy_F p1 p0 0 S _ _ _ X (lv_sub hl [2, 4, 1, 0] rfl) h
def m_Debts_ofLine_B5 (k0 : Nat) (kk5 : Int32 → Int32 → Int32 → sy_St → sy_R) (y2 : Int32) (y3 : Int32) (y4 : Int32) (S : sy_St) : sy_R := if (S 1 8) ≤ y4 then (some (y3, S)) else (sy_c (m_Debts_isOfLine y4 y2 S) fun r3 S2 => if r3 = 0 then (sy_b (y4 + 1 : Int32) fun x6 => kk5 y2 y3 x6 S2) else (sy_c (m_Debts_ofOne k0 y4 S2) fun r8 S7 => sy_b (y3 + r8 : Int32) fun x10 => sy_b (y4 + 1 : Int32) fun x11 => kk5 y2 x10 x11 S7))
def m_Debts_ofLine (k0 : Nat) (p1 : Int32) (S : sy_St) : sy_R := sy_fix (fun _ _ _ _ => none) (m_Debts_ofLine_B5 k0) sy_F p1 0 0 S
theorem cv_Debts_ofLine : sy_cV RX2 yX2_ofLine cX2_ofLine 5 (some .int) 2 := ⟨wm_893, wm_894, wm_52, wm_895, by decide +kernel⟩
set_option maxRecDepth 100000 in
set_option maxHeartbeats 40000000 in
theorem c_Debts_ofLine (l : Launch) {E : sy_ET} {k0 : Nat} (ht : sy_ODebts E) (h0 : sy_OSky E k0) {p1 : Int32} {S S' : sy_St} {r : Int32} (h : m_Debts_ofLine k0 p1 S = some (r, S')) : sy_MI l yX2_ofLine cX2_ofLine 5 (some .int) 2 45 [.ref (sy_ad E 388), .ref (sy_ad E k0), .int p1] E S r S' := by
  refine sy_MI_of RX2 pn_2 rfl (Nat.le_of_ble_eq_true rfl) (fun p e s m args below meth c A ls fx hr hlk hA X hl => ?_)
  have hx := fx.1
  have hb := fx.2.1
  have hown := fx.2.2.2.1
  have hts := fx.2.2.2.2
  have hl : lv_has ls 5 [(0, .ref (sy_ad E 388)), (1, .ref (sy_ad E k0)), (2, .int p1)] := hl
  have L_5 : ∀ (n5 : Nat) (y2 y3 y4 : Int32) (S : sy_St) (H : Heap) (locs : List Loc) (ls : Array Slot), sy_Wd E A s S H locs → lv_has ls 5 [(0, .ref (sy_ad E 388)), (1, .ref (sy_ad E k0)), (2, .int y2), (3, .int y3), (4, .int y4)] → sy_fix (fun _ _ _ _ => none) (m_Debts_ofLine_B5 k0) n5 y2 y3 y4 S = some (r, S') → W p l e (sy_rm 2 45) s m args below meth c H locs 0 0 (MQ below (sy_Qi E A r S') args s 0 0 A) (F0 m 5 ls []) := by
    intro n5
    induction n5 with
    | zero => intro y2 y3 y4 S H locs ls X hl h; have h9 : (none : sy_R) = some (r, S') := h; cases h9
    | succ n5 ih5 =>
      intro y2 y3 y4 S H locs ls X hl h
      have h : m_Debts_ofLine_B5 k0 (sy_fix (fun _ _ _ _ => none) (m_Debts_ofLine_B5 k0) n5) y2 y3 y4 S = some (r, S') := h
      unfold m_Debts_ofLine_B5 at h
      refine lv_iload hx hb dX2_ofLine_5 (lv_at hl 4 rfl) ?_
      refine lv_aload_n hx hb dX2_ofLine_7 rfl (lv_at hl 0 rfl) ?_
      refine sy_q2 fx X (sy_ODebts_o ht) 0 (by decide) wm_158 (fun _ h9 => h9) rfl (sy_ODebts_r0 ht) dX2_ofLine_8 ?_
      refine sy_g3 fx X (sy_OEdge_o (sy_ODebts_a0 ht)) 8 (by decide) wm_864 (fun _ h9 => h9) rfl dX2_ofLine_11 ?_
      refine lv_icmp_ge (tgt := 43) hx hb dX2_ofLine_14 (by decide) (fun c1 => ?_) (fun c1 => ?_)
      · have h := sy_t c1 h
        refine lv_iload_n hx hb dX2_ofLine_43 rfl (lv_at hl 3 rfl) ?_
        exact sy_iret fx X hr hlk h dX2_ofLine_44
      · have h := sy_f c1 h
        refine lv_aload_n hx hb dX2_ofLine_17 rfl (lv_at hl 0 rfl) ?_
        refine lv_iload hx hb dX2_ofLine_18 (lv_at hl 4 rfl) ?_
        refine lv_iload_n hx hb dX2_ofLine_20 rfl (lv_at hl 2 rfl) ?_
        obtain ⟨r3, S2, hc4, h⟩ := sy_c_e h
        refine sy_vi (rest := []) fx hA X hl.1 (sy_ODebts_o ht) (sy_en2 (sy_ODebts_o ht).2) rfl (c_Debts_isOfLine l ht hc4) cv_Debts_isOfLine wm_896 ⟨Nat.le_of_ble_eq_true rfl, Nat.le_of_ble_eq_true rfl, Nat.le_refl _, Nat.le_refl _⟩ rfl rfl (Nat.le_of_ble_eq_true rfl) dX2_ofLine_21 (fun H locs X => ?_)
        refine lv_if_eq (tgt := 37) hx hb dX2_ofLine_24 (by decide) (fun c5 => ?_) (fun c5 => ?_)
        · have h := sy_t c5 h
          obtain ⟨x6, hx6, h⟩ := sy_b_e h
          refine lv_iinc (v := x6) (lv' := [(4, .int x6), (0, .ref (sy_ad E 388)), (1, .ref (sy_ad E k0)), (2, .int y2), (3, .int y3)]) hx hb dX2_ofLine_37 hl (k := 4) rfl (by rw [hx6]; rfl) (by decide) rfl (fun ls hl => ?_)
          refine lv_goto (tgt := 5) hx hb dX2_ofLine_40 (by decide) ?_
          exact ih5 y2 y3 x6 S2 _ _ _ X (lv_sub hl [1, 2, 3, 4, 0] rfl) h
        · have h := sy_f c5 h
          refine lv_iload_n hx hb dX2_ofLine_27 rfl (lv_at hl 3 rfl) ?_
          refine lv_aload_n hx hb dX2_ofLine_28 rfl (lv_at hl 0 rfl) ?_
          refine lv_aload_n hx hb dX2_ofLine_29 rfl (lv_at hl 1 rfl) ?_
          refine lv_iload hx hb dX2_ofLine_30 (lv_at hl 4 rfl) ?_
          obtain ⟨r8, S7, hc9, h⟩ := sy_c_e h
          refine sy_vi (rest := [.int y3]) fx hA X hl.1 (sy_ODebts_o ht) (sy_en2 (sy_ODebts_o ht).2) rfl (c_Debts_ofOne l ht h0 hc9) cv_Debts_ofOne wm_883 ⟨Nat.le_of_ble_eq_true rfl, Nat.le_of_ble_eq_true rfl, Nat.le_refl _, Nat.le_refl _⟩ rfl rfl (Nat.le_of_ble_eq_true rfl) dX2_ofLine_32 (fun H locs X => ?_)
          refine lv_iadd hx hb dX2_ofLine_35 ?_
          obtain ⟨x10, hx10, h⟩ := sy_b_e h
          refine sy_top hx10 ?_
          refine lv_istore_n (lv' := [(3, .int x10), (0, .ref (sy_ad E 388)), (1, .ref (sy_ad E k0)), (2, .int y2), (4, .int y4)]) hx hb dX2_ofLine_36 rfl hl (by decide) rfl (fun ls hl => ?_)
          obtain ⟨x11, hx11, h⟩ := sy_b_e h
          refine lv_iinc (v := x11) (lv' := [(4, .int x11), (3, .int x10), (0, .ref (sy_ad E 388)), (1, .ref (sy_ad E k0)), (2, .int y2)]) hx hb dX2_ofLine_37 hl (k := 4) rfl (by rw [hx11]; rfl) (by decide) rfl (fun ls hl => ?_)
          refine lv_goto (tgt := 5) hx hb dX2_ofLine_40 (by decide) ?_
          exact ih5 y2 x10 x11 S7 _ _ _ X (lv_sub hl [2, 3, 4, 1, 0] rfl) h
  unfold m_Debts_ofLine at h
  refine lv_iconst (v := 0) hx hb dX2_ofLine_0 (by decide) ?_
  refine lv_istore_n (lv' := [(3, .int 0), (0, .ref (sy_ad E 388)), (1, .ref (sy_ad E k0)), (2, .int p1)]) hx hb dX2_ofLine_1 rfl hl (by decide) rfl (fun ls hl => ?_)
  refine lv_iconst (v := 0) hx hb dX2_ofLine_2 (by decide) ?_
  refine lv_istore (lv' := [(4, .int 0), (3, .int 0), (0, .ref (sy_ad E 388)), (1, .ref (sy_ad E k0)), (2, .int p1)]) hx hb dX2_ofLine_3 hl (by decide) rfl (fun ls hl => ?_)
  exact L_5 sy_F p1 0 0 S _ _ _ X (lv_sub hl [2, 3, 4, 1, 0] rfl) h
def m_Edge_addPerson (k : Nat) (p0 : Int32) (p1 : Int32) (p2 : Int32) (p3 : Int32) (p4 : Int32) (S : sy_St) : sy_R := if (S k 8) < 6 then (sy_g (sy_in (S k 8) 6) <| sy_b (sy_up S (k + 2) ((S k 8).toNatClampNeg) p0) fun S3 => sy_g (sy_in (S3 k 8) 6) <| sy_b (sy_up S3 (k + 3) ((S3 k 8).toNatClampNeg) p1) fun S5 => sy_g (sy_in (S5 k 8) 6) <| sy_b (sy_up S5 (k + 4) ((S5 k 8).toNatClampNeg) p2) fun S7 => sy_g (sy_in (S7 k 8) 6) <| sy_b (sy_up S7 (k + 5) ((S7 k 8).toNatClampNeg) p3) fun S9 => sy_g (sy_in (S9 k 8) 6) <| sy_b (sy_up S9 (k + 6) ((S9 k 8).toNatClampNeg) p4) fun S11 => sy_b (sy_up S11 k 8 ((S11 k 8) + 1)) fun S12 => some (0, S12)) else (some (0, S))
theorem cv_Edge_addPerson : sy_cV RX3 yX3_addPerson cX3_addPerson 6 none 5 := ⟨wm_286, wm_287, wm_14, wm_288, by decide +kernel⟩
set_option maxRecDepth 100000 in
set_option maxHeartbeats 40000000 in
theorem c_Edge_addPerson (l : Launch) {E : sy_ET} {k : Nat} (ht : sy_OEdge E k) {p0 : Int32} {p1 : Int32} {p2 : Int32} {p3 : Int32} {p4 : Int32} {S S' : sy_St} {r : Int32} (h : m_Edge_addPerson k p0 p1 p2 p3 p4 S = some (r, S')) : sy_MV l yX3_addPerson cX3_addPerson 6 0 0 [.ref (sy_ad E k), .int p0, .int p1, .int p2, .int p3, .int p4] E S S' := by
  refine sy_MV_of RX3 pn_3 rfl (Nat.le_of_ble_eq_true rfl) (fun p e s m args below meth c A ls fx hr hlk hA X hl => ?_)
  have hx := fx.1
  have hb := fx.2.1
  have hown := fx.2.2.2.1
  have hts := fx.2.2.2.2
  have hl : lv_has ls 6 [(0, .ref (sy_ad E k)), (1, .int p0), (2, .int p1), (3, .int p2), (4, .int p3), (5, .int p4)] := hl
  unfold m_Edge_addPerson at h
  refine lv_aload_n hx hb dX3_addPerson_0 rfl (lv_at hl 0 rfl) ?_
  refine sy_g3 fx X (sy_OEdge_o ht) 8 (by decide) wm_76 (fun _ h9 => h9) rfl dX3_addPerson_1 ?_
  refine lv_bipush (v := 6) hx hb dX3_addPerson_4 (by decide) ?_
  refine lv_icmp_lt (tgt := 10) hx hb dX3_addPerson_6 (by decide) (fun c1 => ?_) (fun c1 => ?_)
  · have h := sy_t c1 h
    refine lv_aload_n hx hb dX3_addPerson_10 rfl (lv_at hl 0 rfl) ?_
    refine sy_q3 fx X (sy_OEdge_o ht) 1 (by decide) wm_65 (fun _ h9 => h9) rfl (sy_OEdge_r1 ht) dX3_addPerson_11 ?_
    refine lv_aload_n hx hb dX3_addPerson_14 rfl (lv_at hl 0 rfl) ?_
    refine sy_g3 fx X (sy_OEdge_o ht) 8 (by decide) wm_76 (fun _ h9 => h9) rfl dX3_addPerson_15 ?_
    refine lv_iload_n hx hb dX3_addPerson_18 rfl (lv_at hl 1 rfl) ?_
    obtain ⟨g2, h⟩ := sy_g_e h
    obtain ⟨S3, hS3, h⟩ := sy_b_e h
    refine sy_iast fx X (sy_OEdge_a1 ht) g2 hS3 dX3_addPerson_19 (fun H locs X => ?_)
    refine lv_aload_n hx hb dX3_addPerson_20 rfl (lv_at hl 0 rfl) ?_
    refine sy_q3 fx X (sy_OEdge_o ht) 2 (by decide) wm_66 (fun _ h9 => h9) rfl (sy_OEdge_r2 ht) dX3_addPerson_21 ?_
    refine lv_aload_n hx hb dX3_addPerson_24 rfl (lv_at hl 0 rfl) ?_
    refine sy_g3 fx X (sy_OEdge_o ht) 8 (by decide) wm_76 (fun _ h9 => h9) rfl dX3_addPerson_25 ?_
    refine lv_iload_n hx hb dX3_addPerson_28 rfl (lv_at hl 2 rfl) ?_
    obtain ⟨g4, h⟩ := sy_g_e h
    obtain ⟨S5, hS5, h⟩ := sy_b_e h
    refine sy_iast fx X (sy_OEdge_a2 ht) g4 hS5 dX3_addPerson_29 (fun H locs X => ?_)
    refine lv_aload_n hx hb dX3_addPerson_30 rfl (lv_at hl 0 rfl) ?_
    refine sy_q3 fx X (sy_OEdge_o ht) 3 (by decide) wm_67 (fun _ h9 => h9) rfl (sy_OEdge_r3 ht) dX3_addPerson_31 ?_
    refine lv_aload_n hx hb dX3_addPerson_34 rfl (lv_at hl 0 rfl) ?_
    refine sy_g3 fx X (sy_OEdge_o ht) 8 (by decide) wm_76 (fun _ h9 => h9) rfl dX3_addPerson_35 ?_
    refine lv_iload_n hx hb dX3_addPerson_38 rfl (lv_at hl 3 rfl) ?_
    obtain ⟨g6, h⟩ := sy_g_e h
    obtain ⟨S7, hS7, h⟩ := sy_b_e h
    refine sy_iast fx X (sy_OEdge_a3 ht) g6 hS7 dX3_addPerson_39 (fun H locs X => ?_)
    refine lv_aload_n hx hb dX3_addPerson_40 rfl (lv_at hl 0 rfl) ?_
    refine sy_q3 fx X (sy_OEdge_o ht) 4 (by decide) wm_68 (fun _ h9 => h9) rfl (sy_OEdge_r4 ht) dX3_addPerson_41 ?_
    refine lv_aload_n hx hb dX3_addPerson_44 rfl (lv_at hl 0 rfl) ?_
    refine sy_g3 fx X (sy_OEdge_o ht) 8 (by decide) wm_76 (fun _ h9 => h9) rfl dX3_addPerson_45 ?_
    refine lv_iload hx hb dX3_addPerson_48 (lv_at hl 4 rfl) ?_
    obtain ⟨g8, h⟩ := sy_g_e h
    obtain ⟨S9, hS9, h⟩ := sy_b_e h
    refine sy_iast fx X (sy_OEdge_a4 ht) g8 hS9 dX3_addPerson_50 (fun H locs X => ?_)
    refine lv_aload_n hx hb dX3_addPerson_51 rfl (lv_at hl 0 rfl) ?_
    refine sy_q3 fx X (sy_OEdge_o ht) 5 (by decide) wm_69 (fun _ h9 => h9) rfl (sy_OEdge_r5 ht) dX3_addPerson_52 ?_
    refine lv_aload_n hx hb dX3_addPerson_55 rfl (lv_at hl 0 rfl) ?_
    refine sy_g3 fx X (sy_OEdge_o ht) 8 (by decide) wm_76 (fun _ h9 => h9) rfl dX3_addPerson_56 ?_
    refine lv_iload hx hb dX3_addPerson_59 (lv_at hl 5 rfl) ?_
    obtain ⟨g10, h⟩ := sy_g_e h
    obtain ⟨S11, hS11, h⟩ := sy_b_e h
    refine sy_iast fx X (sy_OEdge_a5 ht) g10 hS11 dX3_addPerson_61 (fun H locs X => ?_)
    refine lv_aload_n hx hb dX3_addPerson_62 rfl (lv_at hl 0 rfl) ?_
    refine lv_dup hx hb dX3_addPerson_63 rfl ?_
    refine sy_g3 fx X (sy_OEdge_o ht) 8 (by decide) wm_76 (fun _ h9 => h9) rfl dX3_addPerson_64 ?_
    refine lv_iconst (v := 1) hx hb dX3_addPerson_67 (by decide) ?_
    refine lv_iadd hx hb dX3_addPerson_68 ?_
    obtain ⟨S12, hS12, h⟩ := sy_b_e h
    refine sy_p3 fx X (sy_OEdge_o ht) 8 (by decide) wm_76 (fun _ h9 => h9) rfl (ty := .int) (by decide +kernel) rfl rfl hS12 sy_s3_8 dX3_addPerson_69 (fun H locs X => ?_)
    exact sy_vret fx X hr hlk h dX3_addPerson_72
  · have h := sy_f c1 h
    exact sy_vret fx X hr hlk h dX3_addPerson_9
def m_Edge_addWeight (k : Nat) (p0 : Int32) (S : sy_St) : sy_R := if (S k 7) < 12 then (sy_g (sy_in (S k 7) 12) <| sy_b (sy_up S (k + 1) ((S k 7).toNatClampNeg) p0) fun S3 => sy_b (sy_up S3 k 7 ((S3 k 7) + 1)) fun S4 => some (0, S4)) else (some (0, S))
theorem cv_Edge_addWeight : sy_cV RX3 yX3_addWeight cX3_addWeight 2 none 1 := ⟨wm_261, wm_262, wm_14, wm_263, by decide +kernel⟩
set_option maxRecDepth 100000 in
set_option maxHeartbeats 40000000 in
theorem c_Edge_addWeight (l : Launch) {E : sy_ET} {k : Nat} (ht : sy_OEdge E k) {p0 : Int32} {S S' : sy_St} {r : Int32} (h : m_Edge_addWeight k p0 S = some (r, S')) : sy_MV l yX3_addWeight cX3_addWeight 2 0 0 [.ref (sy_ad E k), .int p0] E S S' := by
  refine sy_MV_of RX3 pn_3 rfl (Nat.le_of_ble_eq_true rfl) (fun p e s m args below meth c A ls fx hr hlk hA X hl => ?_)
  have hx := fx.1
  have hb := fx.2.1
  have hown := fx.2.2.2.1
  have hts := fx.2.2.2.2
  have hl : lv_has ls 2 [(0, .ref (sy_ad E k)), (1, .int p0)] := hl
  unfold m_Edge_addWeight at h
  refine lv_aload_n hx hb dX3_addWeight_0 rfl (lv_at hl 0 rfl) ?_
  refine sy_g3 fx X (sy_OEdge_o ht) 7 (by decide) wm_75 (fun _ h9 => h9) rfl dX3_addWeight_1 ?_
  refine lv_bipush (v := 12) hx hb dX3_addWeight_4 (by decide) ?_
  refine lv_icmp_lt (tgt := 10) hx hb dX3_addWeight_6 (by decide) (fun c1 => ?_) (fun c1 => ?_)
  · have h := sy_t c1 h
    refine lv_aload_n hx hb dX3_addWeight_10 rfl (lv_at hl 0 rfl) ?_
    refine sy_q3 fx X (sy_OEdge_o ht) 0 (by decide) wm_64 (fun _ h9 => h9) rfl (sy_OEdge_r0 ht) dX3_addWeight_11 ?_
    refine lv_aload_n hx hb dX3_addWeight_14 rfl (lv_at hl 0 rfl) ?_
    refine sy_g3 fx X (sy_OEdge_o ht) 7 (by decide) wm_75 (fun _ h9 => h9) rfl dX3_addWeight_15 ?_
    refine lv_iload_n hx hb dX3_addWeight_18 rfl (lv_at hl 1 rfl) ?_
    obtain ⟨g2, h⟩ := sy_g_e h
    obtain ⟨S3, hS3, h⟩ := sy_b_e h
    refine sy_iast fx X (sy_OEdge_a0 ht) g2 hS3 dX3_addWeight_19 (fun H locs X => ?_)
    refine lv_aload_n hx hb dX3_addWeight_20 rfl (lv_at hl 0 rfl) ?_
    refine lv_dup hx hb dX3_addWeight_21 rfl ?_
    refine sy_g3 fx X (sy_OEdge_o ht) 7 (by decide) wm_75 (fun _ h9 => h9) rfl dX3_addWeight_22 ?_
    refine lv_iconst (v := 1) hx hb dX3_addWeight_25 (by decide) ?_
    refine lv_iadd hx hb dX3_addWeight_26 ?_
    obtain ⟨S4, hS4, h⟩ := sy_b_e h
    refine sy_p3 fx X (sy_OEdge_o ht) 7 (by decide) wm_75 (fun _ h9 => h9) rfl (ty := .int) (by decide +kernel) rfl rfl hS4 sy_s3_7 dX3_addWeight_27 (fun H locs X => ?_)
    exact sy_vret fx X hr hlk h dX3_addWeight_30
  · have h := sy_f c1 h
    exact sy_vret fx X hr hlk h dX3_addWeight_9
def m_Edge_areLevel (k : Nat) (p0 : Int32) (p1 : Int32) (S : sy_St) : sy_R := sy_c (m_Edge_isPerson k p0 S) fun r2 S1 => if r2 = 0 then (some (0, S1)) else (sy_c (m_Edge_isPerson k p1 S1) fun r6 S5 => if r6 = 0 then (some (0, S5)) else (sy_g (sy_in p0 6) <| sy_g (sy_in p1 6) <| if 1 < (sy_abs ((S5 (k + 4) p0.toNatClampNeg) - (S5 (k + 4) p1.toNatClampNeg))) then (some (0, S5)) else (some (1, S5))))
theorem cv_Edge_areLevel : sy_cV RX3 yX3_areLevel cX3_areLevel 3 (some .boolean) 2 := ⟨wm_619, wm_620, wm_14, wm_621, by decide +kernel⟩
set_option maxRecDepth 100000 in
set_option maxHeartbeats 40000000 in
theorem c_Edge_areLevel (l : Launch) {E : sy_ET} {k : Nat} (ht : sy_OEdge E k) {p0 : Int32} {p1 : Int32} {S S' : sy_St} {r : Int32} (h : m_Edge_areLevel k p0 p1 S = some (r, S')) : sy_MI l yX3_areLevel cX3_areLevel 3 (some .boolean) 1 30 [.ref (sy_ad E k), .int p0, .int p1] E S r S' := by
  refine sy_MI_of RX3 pn_3 rfl (Nat.le_of_ble_eq_true rfl) (fun p e s m args below meth c A ls fx hr hlk hA X hl => ?_)
  have hx := fx.1
  have hb := fx.2.1
  have hown := fx.2.2.2.1
  have hts := fx.2.2.2.2
  have hl : lv_has ls 3 [(0, .ref (sy_ad E k)), (1, .int p0), (2, .int p1)] := hl
  unfold m_Edge_areLevel at h
  refine lv_aload_n hx hb dX3_areLevel_0 rfl (lv_at hl 0 rfl) ?_
  refine lv_iload_n hx hb dX3_areLevel_1 rfl (lv_at hl 1 rfl) ?_
  obtain ⟨r2, S1, hc3, h⟩ := sy_c_e h
  refine sy_vi (rest := []) fx hA X hl.1 (sy_OEdge_o ht) (sy_en3 (sy_OEdge_o ht).2) rfl (c_Edge_isPerson l ht hc3) cv_Edge_isPerson wm_596 ⟨Nat.le_of_ble_eq_true rfl, Nat.le_of_ble_eq_true rfl, Nat.le_refl _, Nat.le_refl _⟩ rfl rfl (Nat.le_of_ble_eq_true rfl) dX3_areLevel_2 (fun H locs X => ?_)
  refine lv_if_eq (tgt := 40) hx hb dX3_areLevel_5 (by decide) (fun c4 => ?_) (fun c4 => ?_)
  · have h := sy_t c4 h
    refine lv_iconst (v := 0) hx hb dX3_areLevel_40 (by decide) ?_
    exact sy_zret fx X hr hlk (Or.inl rfl) h dX3_areLevel_41
  · have h := sy_f c4 h
    refine lv_aload_n hx hb dX3_areLevel_8 rfl (lv_at hl 0 rfl) ?_
    refine lv_iload_n hx hb dX3_areLevel_9 rfl (lv_at hl 2 rfl) ?_
    obtain ⟨r6, S5, hc7, h⟩ := sy_c_e h
    refine sy_vi (rest := []) fx hA X hl.1 (sy_OEdge_o ht) (sy_en3 (sy_OEdge_o ht).2) rfl (c_Edge_isPerson l ht hc7) cv_Edge_isPerson wm_596 ⟨Nat.le_of_ble_eq_true rfl, Nat.le_of_ble_eq_true rfl, Nat.le_refl _, Nat.le_refl _⟩ rfl rfl (Nat.le_of_ble_eq_true rfl) dX3_areLevel_10 (fun H locs X => ?_)
    refine lv_if_eq (tgt := 40) hx hb dX3_areLevel_13 (by decide) (fun c8 => ?_) (fun c8 => ?_)
    · have h := sy_t c8 h
      refine lv_iconst (v := 0) hx hb dX3_areLevel_40 (by decide) ?_
      exact sy_zret fx X hr hlk (Or.inl rfl) h dX3_areLevel_41
    · have h := sy_f c8 h
      refine lv_aload_n hx hb dX3_areLevel_16 rfl (lv_at hl 0 rfl) ?_
      refine sy_q3 fx X (sy_OEdge_o ht) 3 (by decide) wm_67 (fun _ h9 => h9) rfl (sy_OEdge_r3 ht) dX3_areLevel_17 ?_
      refine lv_iload_n hx hb dX3_areLevel_20 rfl (lv_at hl 1 rfl) ?_
      obtain ⟨g9, h⟩ := sy_g_e h
      refine sy_iald fx X (sy_OEdge_a3 ht) g9 dX3_areLevel_21 ?_
      refine lv_aload_n hx hb dX3_areLevel_22 rfl (lv_at hl 0 rfl) ?_
      refine sy_q3 fx X (sy_OEdge_o ht) 3 (by decide) wm_67 (fun _ h9 => h9) rfl (sy_OEdge_r3 ht) dX3_areLevel_23 ?_
      refine lv_iload_n hx hb dX3_areLevel_26 rfl (lv_at hl 2 rfl) ?_
      obtain ⟨g10, h⟩ := sy_g_e h
      refine sy_iald fx X (sy_OEdge_a3 ht) g10 dX3_areLevel_27 ?_
      refine lv_isub hx hb dX3_areLevel_28 ?_
      refine va_mabs (rest := []) hx hb (fx.2.2.1.trans hl.1.symm) hown (hts _ wm_622) (hts _ wm_623) (hts _ wm_414) (hts _ wm_624) (Nat.le_of_ble_eq_true rfl) (Nat.le_of_ble_eq_true rfl) (Nat.le_refl _) (Nat.le_refl _) dX3_areLevel_29 ?_
      refine lv_iconst (v := 1) hx hb dX3_areLevel_32 (by decide) ?_
      refine lv_icmp_gt (tgt := 40) hx hb dX3_areLevel_33 (by decide) (fun c11 => ?_) (fun c11 => ?_)
      · have h := sy_t c11 h
        refine lv_iconst (v := 0) hx hb dX3_areLevel_40 (by decide) ?_
        exact sy_zret fx X hr hlk (Or.inl rfl) h dX3_areLevel_41
      · have h := sy_f c11 h
        refine lv_iconst (v := 1) hx hb dX3_areLevel_36 (by decide) ?_
        refine lv_goto (tgt := 41) hx hb dX3_areLevel_37 (by decide) ?_
        exact sy_zret fx X hr hlk (Or.inr rfl) h dX3_areLevel_41
def m_Edge_setGoodness (k : Nat) (p0 : Int32) (p1 : Int32) (p2 : Int32) (S : sy_St) : sy_R := sy_b (sy_up S (k + 7) ((0 : Int32).toNatClampNeg) p0) fun S1 => sy_b (sy_up S1 (k + 7) ((1 : Int32).toNatClampNeg) p1) fun S2 => sy_b (sy_up S2 (k + 7) ((2 : Int32).toNatClampNeg) p2) fun S3 => some (0, S3)
theorem cv_Edge_setGoodness : sy_cV RX3 yX3_setGoodness cX3_setGoodness 4 none 3 := ⟨wm_79, wm_80, wm_14, wm_81, by decide +kernel⟩
set_option maxRecDepth 100000 in
set_option maxHeartbeats 40000000 in
theorem c_Edge_setGoodness (l : Launch) {E : sy_ET} {k : Nat} (ht : sy_OEdge E k) {p0 : Int32} {p1 : Int32} {p2 : Int32} {S S' : sy_St} {r : Int32} (h : m_Edge_setGoodness k p0 p1 p2 S = some (r, S')) : sy_MV l yX3_setGoodness cX3_setGoodness 4 0 0 [.ref (sy_ad E k), .int p0, .int p1, .int p2] E S S' := by
  refine sy_MV_of RX3 pn_3 rfl (Nat.le_of_ble_eq_true rfl) (fun p e s m args below meth c A ls fx hr hlk hA X hl => ?_)
  have hx := fx.1
  have hb := fx.2.1
  have hown := fx.2.2.2.1
  have hts := fx.2.2.2.2
  have hl : lv_has ls 4 [(0, .ref (sy_ad E k)), (1, .int p0), (2, .int p1), (3, .int p2)] := hl
  unfold m_Edge_setGoodness at h
  refine lv_aload_n hx hb dX3_setGoodness_0 rfl (lv_at hl 0 rfl) ?_
  refine sy_q3 fx X (sy_OEdge_o ht) 6 (by decide) wm_70 (fun _ h9 => h9) rfl (sy_OEdge_r6 ht) dX3_setGoodness_1 ?_
  refine lv_iconst (v := 0) hx hb dX3_setGoodness_4 (by decide) ?_
  refine lv_iload_n hx hb dX3_setGoodness_5 rfl (lv_at hl 1 rfl) ?_
  obtain ⟨S1, hS1, h⟩ := sy_b_e h
  refine sy_iast fx X (sy_OEdge_a6 ht) (by decide) hS1 dX3_setGoodness_6 (fun H locs X => ?_)
  refine lv_aload_n hx hb dX3_setGoodness_7 rfl (lv_at hl 0 rfl) ?_
  refine sy_q3 fx X (sy_OEdge_o ht) 6 (by decide) wm_70 (fun _ h9 => h9) rfl (sy_OEdge_r6 ht) dX3_setGoodness_8 ?_
  refine lv_iconst (v := 1) hx hb dX3_setGoodness_11 (by decide) ?_
  refine lv_iload_n hx hb dX3_setGoodness_12 rfl (lv_at hl 2 rfl) ?_
  obtain ⟨S2, hS2, h⟩ := sy_b_e h
  refine sy_iast fx X (sy_OEdge_a6 ht) (by decide) hS2 dX3_setGoodness_13 (fun H locs X => ?_)
  refine lv_aload_n hx hb dX3_setGoodness_14 rfl (lv_at hl 0 rfl) ?_
  refine sy_q3 fx X (sy_OEdge_o ht) 6 (by decide) wm_70 (fun _ h9 => h9) rfl (sy_OEdge_r6 ht) dX3_setGoodness_15 ?_
  refine lv_iconst (v := 2) hx hb dX3_setGoodness_18 (by decide) ?_
  refine lv_iload_n hx hb dX3_setGoodness_19 rfl (lv_at hl 3 rfl) ?_
  obtain ⟨S3, hS3, h⟩ := sy_b_e h
  refine sy_iast fx X (sy_OEdge_a6 ht) (by decide) hS3 dX3_setGoodness_20 (fun H locs X => ?_)
  exact sy_vret fx X hr hlk h dX3_setGoodness_21
def m_Edge_clear (k : Nat) (S : sy_St) : sy_R := sy_b (sy_up S k 7 0) fun S1 => sy_b (sy_up S1 k 8 0) fun S2 => sy_c (m_Edge_setGoodness k 3 5 7 S2) fun r4 S3 => sy_b (sy_up S3 k 9 9) fun S6 => some (0, S6)
theorem cv_Edge_clear : sy_cV RX3 yX3_clear cX3_clear 1 none 0 := ⟨wm_72, wm_73, wm_14, wm_74, by decide +kernel⟩
set_option maxRecDepth 100000 in
set_option maxHeartbeats 40000000 in
theorem c_Edge_clear (l : Launch) {E : sy_ET} {k : Nat} (ht : sy_OEdge E k) {S S' : sy_St} {r : Int32} (h : m_Edge_clear k S = some (r, S')) : sy_MV l yX3_clear cX3_clear 1 1 23 [.ref (sy_ad E k)] E S S' := by
  refine sy_MV_of RX3 pn_3 rfl (Nat.le_of_ble_eq_true rfl) (fun p e s m args below meth c A ls fx hr hlk hA X hl => ?_)
  have hx := fx.1
  have hb := fx.2.1
  have hown := fx.2.2.2.1
  have hts := fx.2.2.2.2
  have hl : lv_has ls 1 [(0, .ref (sy_ad E k))] := hl
  unfold m_Edge_clear at h
  refine lv_aload_n hx hb dX3_clear_0 rfl (lv_at hl 0 rfl) ?_
  refine lv_iconst (v := 0) hx hb dX3_clear_1 (by decide) ?_
  obtain ⟨S1, hS1, h⟩ := sy_b_e h
  refine sy_p3 fx X (sy_OEdge_o ht) 7 (by decide) wm_75 (fun _ h9 => h9) rfl (ty := .int) (by decide +kernel) rfl rfl hS1 sy_s3_7 dX3_clear_2 (fun H locs X => ?_)
  refine lv_aload_n hx hb dX3_clear_5 rfl (lv_at hl 0 rfl) ?_
  refine lv_iconst (v := 0) hx hb dX3_clear_6 (by decide) ?_
  obtain ⟨S2, hS2, h⟩ := sy_b_e h
  refine sy_p3 fx X (sy_OEdge_o ht) 8 (by decide) wm_76 (fun _ h9 => h9) rfl (ty := .int) (by decide +kernel) rfl rfl hS2 sy_s3_8 dX3_clear_7 (fun H locs X => ?_)
  refine lv_aload_n hx hb dX3_clear_10 rfl (lv_at hl 0 rfl) ?_
  refine lv_iconst (v := 3) hx hb dX3_clear_11 (by decide) ?_
  refine lv_iconst (v := 5) hx hb dX3_clear_12 (by decide) ?_
  refine lv_bipush (v := 7) hx hb dX3_clear_13 (by decide) ?_
  obtain ⟨r4, S3, hc5, h⟩ := sy_c_e h
  refine sy_vv (rest := []) fx hA X hl.1 (sy_OEdge_o ht) (sy_en3 (sy_OEdge_o ht).2) rfl (c_Edge_setGoodness l ht hc5) cv_Edge_setGoodness wm_78 ⟨Nat.le_of_ble_eq_true rfl, Nat.le_of_ble_eq_true rfl, Nat.le_refl _, Nat.le_refl _⟩ rfl rfl (Nat.le_of_ble_eq_true rfl) dX3_clear_15 (fun H locs X => ?_)
  refine lv_aload_n hx hb dX3_clear_18 rfl (lv_at hl 0 rfl) ?_
  refine lv_bipush (v := 9) hx hb dX3_clear_19 (by decide) ?_
  obtain ⟨S6, hS6, h⟩ := sy_b_e h
  refine sy_p3 fx X (sy_OEdge_o ht) 9 (by decide) wm_77 (fun _ h9 => h9) rfl (ty := .int) (by decide +kernel) rfl rfl hS6 sy_s3_9 dX3_clear_21 (fun H locs X => ?_)
  exact sy_vret fx X hr hlk h dX3_clear_24
def m_Edge_copyFrom (k : Nat) (k0 : Nat) (S : sy_St) : sy_R := sy_b (sy_cp S (k0 + 1) (k + 1) 0 0 12) fun S1 => sy_b (sy_cp S1 (k0 + 2) (k + 2) 0 0 6) fun S2 => sy_b (sy_cp S2 (k0 + 3) (k + 3) 0 0 6) fun S3 => sy_b (sy_cp S3 (k0 + 4) (k + 4) 0 0 6) fun S4 => sy_b (sy_cp S4 (k0 + 5) (k + 5) 0 0 6) fun S5 => sy_b (sy_cp S5 (k0 + 6) (k + 6) 0 0 6) fun S6 => sy_b (sy_cp S6 (k0 + 7) (k + 7) 0 0 3) fun S7 => sy_b (sy_up S7 k 7 (S7 k0 7)) fun S8 => sy_b (sy_up S8 k 8 (S8 k0 8)) fun S9 => sy_b (sy_up S9 k 9 (S9 k0 9)) fun S10 => some (0, S10)
theorem cv_Edge_copyFrom : sy_cV RX3 yX3_copyFrom cX3_copyFrom 2 none 1 := ⟨wm_300, wm_301, wm_14, wm_302, by decide +kernel⟩
set_option maxRecDepth 100000 in
set_option maxHeartbeats 40000000 in
theorem c_Edge_copyFrom (l : Launch) {E : sy_ET} {k : Nat} {k0 : Nat} (ht : sy_OEdge E k) (h0 : sy_OEdge E k0) {S S' : sy_St} {r : Int32} (h : m_Edge_copyFrom k k0 S = some (r, S')) : sy_MV l yX3_copyFrom cX3_copyFrom 2 1 60 [.ref (sy_ad E k), .ref (sy_ad E k0)] E S S' := by
  refine sy_MV_of RX3 pn_3 rfl (Nat.le_of_ble_eq_true rfl) (fun p e s m args below meth c A ls fx hr hlk hA X hl => ?_)
  have hx := fx.1
  have hb := fx.2.1
  have hown := fx.2.2.2.1
  have hts := fx.2.2.2.2
  have hl : lv_has ls 2 [(0, .ref (sy_ad E k)), (1, .ref (sy_ad E k0))] := hl
  unfold m_Edge_copyFrom at h
  refine lv_aload_n hx hb dX3_copyFrom_0 rfl (lv_at hl 1 rfl) ?_
  refine sy_q3 fx X (sy_OEdge_o h0) 0 (by decide) wm_64 (fun _ h9 => h9) rfl (sy_OEdge_r0 h0) dX3_copyFrom_1 ?_
  refine lv_iconst (v := 0) hx hb dX3_copyFrom_4 (by decide) ?_
  refine lv_aload_n hx hb dX3_copyFrom_5 rfl (lv_at hl 0 rfl) ?_
  refine sy_q3 fx X (sy_OEdge_o ht) 0 (by decide) wm_64 (fun _ h9 => h9) rfl (sy_OEdge_r0 ht) dX3_copyFrom_6 ?_
  refine lv_iconst (v := 0) hx hb dX3_copyFrom_9 (by decide) ?_
  refine lv_bipush (v := 12) hx hb dX3_copyFrom_10 (by decide) ?_
  obtain ⟨S1, hS1, h⟩ := sy_b_e h
  refine sy_cpy (rest := []) fx X hl.1 (sy_OEdge_a0 h0) (sy_OEdge_a0 ht) wm_303 wm_304 wm_305 wm_306 (by decide) (by decide) (by decide) (by decide) (by decide) (Nat.le_of_ble_eq_true rfl) (by decide) hS1 dX3_copyFrom_12 (fun H locs X => ?_)
  refine lv_aload_n hx hb dX3_copyFrom_15 rfl (lv_at hl 1 rfl) ?_
  refine sy_q3 fx X (sy_OEdge_o h0) 1 (by decide) wm_65 (fun _ h9 => h9) rfl (sy_OEdge_r1 h0) dX3_copyFrom_16 ?_
  refine lv_iconst (v := 0) hx hb dX3_copyFrom_19 (by decide) ?_
  refine lv_aload_n hx hb dX3_copyFrom_20 rfl (lv_at hl 0 rfl) ?_
  refine sy_q3 fx X (sy_OEdge_o ht) 1 (by decide) wm_65 (fun _ h9 => h9) rfl (sy_OEdge_r1 ht) dX3_copyFrom_21 ?_
  refine lv_iconst (v := 0) hx hb dX3_copyFrom_24 (by decide) ?_
  refine lv_bipush (v := 6) hx hb dX3_copyFrom_25 (by decide) ?_
  obtain ⟨S2, hS2, h⟩ := sy_b_e h
  refine sy_cpy (rest := []) fx X hl.1 (sy_OEdge_a1 h0) (sy_OEdge_a1 ht) wm_303 wm_304 wm_305 wm_306 (by decide) (by decide) (by decide) (by decide) (by decide) (Nat.le_of_ble_eq_true rfl) (by decide) hS2 dX3_copyFrom_27 (fun H locs X => ?_)
  refine lv_aload_n hx hb dX3_copyFrom_30 rfl (lv_at hl 1 rfl) ?_
  refine sy_q3 fx X (sy_OEdge_o h0) 2 (by decide) wm_66 (fun _ h9 => h9) rfl (sy_OEdge_r2 h0) dX3_copyFrom_31 ?_
  refine lv_iconst (v := 0) hx hb dX3_copyFrom_34 (by decide) ?_
  refine lv_aload_n hx hb dX3_copyFrom_35 rfl (lv_at hl 0 rfl) ?_
  refine sy_q3 fx X (sy_OEdge_o ht) 2 (by decide) wm_66 (fun _ h9 => h9) rfl (sy_OEdge_r2 ht) dX3_copyFrom_36 ?_
  refine lv_iconst (v := 0) hx hb dX3_copyFrom_39 (by decide) ?_
  refine lv_bipush (v := 6) hx hb dX3_copyFrom_40 (by decide) ?_
  obtain ⟨S3, hS3, h⟩ := sy_b_e h
  refine sy_cpy (rest := []) fx X hl.1 (sy_OEdge_a2 h0) (sy_OEdge_a2 ht) wm_303 wm_304 wm_305 wm_306 (by decide) (by decide) (by decide) (by decide) (by decide) (Nat.le_of_ble_eq_true rfl) (by decide) hS3 dX3_copyFrom_42 (fun H locs X => ?_)
  refine lv_aload_n hx hb dX3_copyFrom_45 rfl (lv_at hl 1 rfl) ?_
  refine sy_q3 fx X (sy_OEdge_o h0) 3 (by decide) wm_67 (fun _ h9 => h9) rfl (sy_OEdge_r3 h0) dX3_copyFrom_46 ?_
  refine lv_iconst (v := 0) hx hb dX3_copyFrom_49 (by decide) ?_
  refine lv_aload_n hx hb dX3_copyFrom_50 rfl (lv_at hl 0 rfl) ?_
  refine sy_q3 fx X (sy_OEdge_o ht) 3 (by decide) wm_67 (fun _ h9 => h9) rfl (sy_OEdge_r3 ht) dX3_copyFrom_51 ?_
  refine lv_iconst (v := 0) hx hb dX3_copyFrom_54 (by decide) ?_
  refine lv_bipush (v := 6) hx hb dX3_copyFrom_55 (by decide) ?_
  obtain ⟨S4, hS4, h⟩ := sy_b_e h
  refine sy_cpy (rest := []) fx X hl.1 (sy_OEdge_a3 h0) (sy_OEdge_a3 ht) wm_303 wm_304 wm_305 wm_306 (by decide) (by decide) (by decide) (by decide) (by decide) (Nat.le_of_ble_eq_true rfl) (by decide) hS4 dX3_copyFrom_57 (fun H locs X => ?_)
  refine lv_aload_n hx hb dX3_copyFrom_60 rfl (lv_at hl 1 rfl) ?_
  refine sy_q3 fx X (sy_OEdge_o h0) 4 (by decide) wm_68 (fun _ h9 => h9) rfl (sy_OEdge_r4 h0) dX3_copyFrom_61 ?_
  refine lv_iconst (v := 0) hx hb dX3_copyFrom_64 (by decide) ?_
  refine lv_aload_n hx hb dX3_copyFrom_65 rfl (lv_at hl 0 rfl) ?_
  refine sy_q3 fx X (sy_OEdge_o ht) 4 (by decide) wm_68 (fun _ h9 => h9) rfl (sy_OEdge_r4 ht) dX3_copyFrom_66 ?_
  refine lv_iconst (v := 0) hx hb dX3_copyFrom_69 (by decide) ?_
  refine lv_bipush (v := 6) hx hb dX3_copyFrom_70 (by decide) ?_
  obtain ⟨S5, hS5, h⟩ := sy_b_e h
  refine sy_cpy (rest := []) fx X hl.1 (sy_OEdge_a4 h0) (sy_OEdge_a4 ht) wm_303 wm_304 wm_305 wm_306 (by decide) (by decide) (by decide) (by decide) (by decide) (Nat.le_of_ble_eq_true rfl) (by decide) hS5 dX3_copyFrom_72 (fun H locs X => ?_)
  refine lv_aload_n hx hb dX3_copyFrom_75 rfl (lv_at hl 1 rfl) ?_
  refine sy_q3 fx X (sy_OEdge_o h0) 5 (by decide) wm_69 (fun _ h9 => h9) rfl (sy_OEdge_r5 h0) dX3_copyFrom_76 ?_
  refine lv_iconst (v := 0) hx hb dX3_copyFrom_79 (by decide) ?_
  refine lv_aload_n hx hb dX3_copyFrom_80 rfl (lv_at hl 0 rfl) ?_
  refine sy_q3 fx X (sy_OEdge_o ht) 5 (by decide) wm_69 (fun _ h9 => h9) rfl (sy_OEdge_r5 ht) dX3_copyFrom_81 ?_
  refine lv_iconst (v := 0) hx hb dX3_copyFrom_84 (by decide) ?_
  refine lv_bipush (v := 6) hx hb dX3_copyFrom_85 (by decide) ?_
  obtain ⟨S6, hS6, h⟩ := sy_b_e h
  refine sy_cpy (rest := []) fx X hl.1 (sy_OEdge_a5 h0) (sy_OEdge_a5 ht) wm_303 wm_304 wm_305 wm_306 (by decide) (by decide) (by decide) (by decide) (by decide) (Nat.le_of_ble_eq_true rfl) (by decide) hS6 dX3_copyFrom_87 (fun H locs X => ?_)
  refine lv_aload_n hx hb dX3_copyFrom_90 rfl (lv_at hl 1 rfl) ?_
  refine sy_q3 fx X (sy_OEdge_o h0) 6 (by decide) wm_70 (fun _ h9 => h9) rfl (sy_OEdge_r6 h0) dX3_copyFrom_91 ?_
  refine lv_iconst (v := 0) hx hb dX3_copyFrom_94 (by decide) ?_
  refine lv_aload_n hx hb dX3_copyFrom_95 rfl (lv_at hl 0 rfl) ?_
  refine sy_q3 fx X (sy_OEdge_o ht) 6 (by decide) wm_70 (fun _ h9 => h9) rfl (sy_OEdge_r6 ht) dX3_copyFrom_96 ?_
  refine lv_iconst (v := 0) hx hb dX3_copyFrom_99 (by decide) ?_
  refine lv_iconst (v := 3) hx hb dX3_copyFrom_100 (by decide) ?_
  obtain ⟨S7, hS7, h⟩ := sy_b_e h
  refine sy_cpy (rest := []) fx X hl.1 (sy_OEdge_a6 h0) (sy_OEdge_a6 ht) wm_303 wm_304 wm_305 wm_306 (by decide) (by decide) (by decide) (by decide) (by decide) (Nat.le_of_ble_eq_true rfl) (by decide) hS7 dX3_copyFrom_101 (fun H locs X => ?_)
  refine lv_aload_n hx hb dX3_copyFrom_104 rfl (lv_at hl 0 rfl) ?_
  refine lv_aload_n hx hb dX3_copyFrom_105 rfl (lv_at hl 1 rfl) ?_
  refine sy_g3 fx X (sy_OEdge_o h0) 7 (by decide) wm_75 (fun _ h9 => h9) rfl dX3_copyFrom_106 ?_
  obtain ⟨S8, hS8, h⟩ := sy_b_e h
  refine sy_p3 fx X (sy_OEdge_o ht) 7 (by decide) wm_75 (fun _ h9 => h9) rfl (ty := .int) (by decide +kernel) rfl rfl hS8 sy_s3_7 dX3_copyFrom_109 (fun H locs X => ?_)
  refine lv_aload_n hx hb dX3_copyFrom_112 rfl (lv_at hl 0 rfl) ?_
  refine lv_aload_n hx hb dX3_copyFrom_113 rfl (lv_at hl 1 rfl) ?_
  refine sy_g3 fx X (sy_OEdge_o h0) 8 (by decide) wm_76 (fun _ h9 => h9) rfl dX3_copyFrom_114 ?_
  obtain ⟨S9, hS9, h⟩ := sy_b_e h
  refine sy_p3 fx X (sy_OEdge_o ht) 8 (by decide) wm_76 (fun _ h9 => h9) rfl (ty := .int) (by decide +kernel) rfl rfl hS9 sy_s3_8 dX3_copyFrom_117 (fun H locs X => ?_)
  refine lv_aload_n hx hb dX3_copyFrom_120 rfl (lv_at hl 0 rfl) ?_
  refine lv_aload_n hx hb dX3_copyFrom_121 rfl (lv_at hl 1 rfl) ?_
  refine sy_g3 fx X (sy_OEdge_o h0) 9 (by decide) wm_77 (fun _ h9 => h9) rfl dX3_copyFrom_122 ?_
  obtain ⟨S10, hS10, h⟩ := sy_b_e h
  refine sy_p3 fx X (sy_OEdge_o ht) 9 (by decide) wm_77 (fun _ h9 => h9) rfl (ty := .int) (by decide +kernel) rfl rfl hS10 sy_s3_9 dX3_copyFrom_125 (fun H locs X => ?_)
  exact sy_vret fx X hr hlk h dX3_copyFrom_128
def m_Edge_isWhole (k : Nat) (S : sy_St) : sy_R := if (S k 7) ≤ 0 then (some (0, S)) else (if (S k 8) ≤ 0 then (some (0, S)) else (some (1, S)))
theorem cv_Edge_isWhole : sy_cV RX3 yX3_isWhole cX3_isWhole 1 (some .boolean) 0 := ⟨wm_480, wm_481, wm_14, wm_482, by decide +kernel⟩
set_option maxRecDepth 100000 in
set_option maxHeartbeats 40000000 in
theorem c_Edge_isWhole (l : Launch) {E : sy_ET} {k : Nat} (ht : sy_OEdge E k) {S S' : sy_St} {r : Int32} (h : m_Edge_isWhole k S = some (r, S')) : sy_MI l yX3_isWhole cX3_isWhole 1 (some .boolean) 0 0 [.ref (sy_ad E k)] E S r S' := by
  refine sy_MI_of RX3 pn_3 rfl (Nat.le_of_ble_eq_true rfl) (fun p e s m args below meth c A ls fx hr hlk hA X hl => ?_)
  have hx := fx.1
  have hb := fx.2.1
  have hown := fx.2.2.2.1
  have hts := fx.2.2.2.2
  have hl : lv_has ls 1 [(0, .ref (sy_ad E k))] := hl
  unfold m_Edge_isWhole at h
  refine lv_aload_n hx hb dX3_isWhole_0 rfl (lv_at hl 0 rfl) ?_
  refine sy_g3 fx X (sy_OEdge_o ht) 7 (by decide) wm_75 (fun _ h9 => h9) rfl dX3_isWhole_1 ?_
  refine lv_if_le (tgt := 18) hx hb dX3_isWhole_4 (by decide) (fun c1 => ?_) (fun c1 => ?_)
  · have h := sy_t c1 h
    refine lv_iconst (v := 0) hx hb dX3_isWhole_18 (by decide) ?_
    exact sy_zret fx X hr hlk (Or.inl rfl) h dX3_isWhole_19
  · have h := sy_f c1 h
    refine lv_aload_n hx hb dX3_isWhole_7 rfl (lv_at hl 0 rfl) ?_
    refine sy_g3 fx X (sy_OEdge_o ht) 8 (by decide) wm_76 (fun _ h9 => h9) rfl dX3_isWhole_8 ?_
    refine lv_if_le (tgt := 18) hx hb dX3_isWhole_11 (by decide) (fun c2 => ?_) (fun c2 => ?_)
    · have h := sy_t c2 h
      refine lv_iconst (v := 0) hx hb dX3_isWhole_18 (by decide) ?_
      exact sy_zret fx X hr hlk (Or.inl rfl) h dX3_isWhole_19
    · have h := sy_f c2 h
      refine lv_iconst (v := 1) hx hb dX3_isWhole_14 (by decide) ?_
      refine lv_goto (tgt := 19) hx hb dX3_isWhole_15 (by decide) ?_
      exact sy_zret fx X hr hlk (Or.inr rfl) h dX3_isWhole_19
def m_Edge_weightAt (k : Nat) (p0 : Int32) (S : sy_St) : sy_R := if (S k 7) < 1 then (some (0, S)) else (if 0 ≤ p0 then (sy_b (S k 7 : Int32) fun x3 => sy_g (¬ x3 = 0) <| sy_b (p0 - p0 / x3 * x3 : Int32) fun x5 => sy_g (sy_in x5 12) <| some (S (k + 1) x5.toNatClampNeg, S)) else (some (0, S)))
theorem cv_Edge_weightAt : sy_cV RX3 yX3_weightAt cX3_weightAt 2 (some .int) 1 := ⟨wm_399, wm_400, wm_14, wm_401, by decide +kernel⟩
set_option maxRecDepth 100000 in
set_option maxHeartbeats 40000000 in
theorem c_Edge_weightAt (l : Launch) {E : sy_ET} {k : Nat} (ht : sy_OEdge E k) {p0 : Int32} {S S' : sy_St} {r : Int32} (h : m_Edge_weightAt k p0 S = some (r, S')) : sy_MI l yX3_weightAt cX3_weightAt 2 (some .int) 0 0 [.ref (sy_ad E k), .int p0] E S r S' := by
  refine sy_MI_of RX3 pn_3 rfl (Nat.le_of_ble_eq_true rfl) (fun p e s m args below meth c A ls fx hr hlk hA X hl => ?_)
  have hx := fx.1
  have hb := fx.2.1
  have hown := fx.2.2.2.1
  have hts := fx.2.2.2.2
  have hl : lv_has ls 2 [(0, .ref (sy_ad E k)), (1, .int p0)] := hl
  unfold m_Edge_weightAt at h
  refine lv_aload_n hx hb dX3_weightAt_0 rfl (lv_at hl 0 rfl) ?_
  refine sy_g3 fx X (sy_OEdge_o ht) 7 (by decide) wm_75 (fun _ h9 => h9) rfl dX3_weightAt_1 ?_
  refine lv_iconst (v := 1) hx hb dX3_weightAt_4 (by decide) ?_
  refine lv_icmp_lt (tgt := 12) hx hb dX3_weightAt_5 (by decide) (fun c1 => ?_) (fun c1 => ?_)
  · have h := sy_t c1 h
    refine lv_iconst (v := 0) hx hb dX3_weightAt_12 (by decide) ?_
    exact sy_iret fx X hr hlk h dX3_weightAt_13
  · have h := sy_f c1 h
    refine lv_iload_n hx hb dX3_weightAt_8 rfl (lv_at hl 1 rfl) ?_
    refine lv_if_ge (tgt := 14) hx hb dX3_weightAt_9 (by decide) (fun c2 => ?_) (fun c2 => ?_)
    · have h := sy_t c2 h
      refine lv_aload_n hx hb dX3_weightAt_14 rfl (lv_at hl 0 rfl) ?_
      refine sy_q3 fx X (sy_OEdge_o ht) 0 (by decide) wm_64 (fun _ h9 => h9) rfl (sy_OEdge_r0 ht) dX3_weightAt_15 ?_
      refine lv_iload_n hx hb dX3_weightAt_18 rfl (lv_at hl 1 rfl) ?_
      refine lv_aload_n hx hb dX3_weightAt_19 rfl (lv_at hl 0 rfl) ?_
      refine sy_g3 fx X (sy_OEdge_o ht) 7 (by decide) wm_75 (fun _ h9 => h9) rfl dX3_weightAt_20 ?_
      obtain ⟨x3, hx3, h⟩ := sy_b_e h
      refine sy_top hx3 ?_
      obtain ⟨g4, h⟩ := sy_g_e h
      refine lv_irem hx hb dX3_weightAt_23 g4 ?_
      obtain ⟨x5, hx5, h⟩ := sy_b_e h
      refine sy_top hx5 ?_
      obtain ⟨g6, h⟩ := sy_g_e h
      refine sy_iald fx X (sy_OEdge_a0 ht) g6 dX3_weightAt_24 ?_
      exact sy_iret fx X hr hlk h dX3_weightAt_25
    · have h := sy_f c2 h
      refine lv_iconst (v := 0) hx hb dX3_weightAt_12 (by decide) ?_
      exact sy_iret fx X hr hlk h dX3_weightAt_13
def m_Game_greatestCommonPart_B15 (kk15 : Int32 → Int32 → Int32 → sy_St → sy_R) (y2 : Int32) (y3 : Int32) (y4 : Int32) (S : sy_St) : sy_R := if 100 ≤ y4 then (some (sy_max 1 y2, S)) else (if y3 ≤ 0 then (some (sy_max 1 y2, S)) else (sy_g (¬ y3 = 0) <| sy_b (y2 - y2 / y3 * y3 : Int32) fun x6 => sy_b (y4 + 1 : Int32) fun x7 => kk15 y3 x6 x7 S))
def m_Game_greatestCommonPart (p0 : Int32) (p1 : Int32) (S : sy_St) : sy_R := sy_b (sy_max p0 p1 : Int32) fun x1 => sy_b (sy_min p0 p1 : Int32) fun x2 => sy_fix (fun _ _ _ _ => none) (m_Game_greatestCommonPart_B15) sy_F x1 x2 0 S
theorem cv_Game_greatestCommonPart : sy_cS RX4 yX4_greatestCommonPart cX4_greatestCommonPart 6 (some .int) 2 := ⟨wm_948, wm_56, wm_949, by decide +kernel⟩
set_option maxRecDepth 100000 in
set_option maxHeartbeats 40000000 in
theorem c_Game_greatestCommonPart (l : Launch) {E : sy_ET} {p0 : Int32} {p1 : Int32} {S S' : sy_St} {r : Int32} (h : m_Game_greatestCommonPart p0 p1 S = some (r, S')) : sy_MI l yX4_greatestCommonPart cX4_greatestCommonPart 6 (some .int) 1 30 [.int p0, .int p1] E S r S' := by
  refine sy_MI_of RX4 pn_4 rfl (Nat.le_of_ble_eq_true rfl) (fun p e s m args below meth c A ls fx hr hlk hA X hl => ?_)
  have hx := fx.1
  have hb := fx.2.1
  have hown := fx.2.2.2.1
  have hts := fx.2.2.2.2
  have hl : lv_has ls 6 [(0, .int p0), (1, .int p1)] := hl
  have L_15 : ∀ (n15 : Nat) (y2 y3 y4 : Int32) (S : sy_St) (H : Heap) (locs : List Loc) (ls : Array Slot), sy_Wd E A s S H locs → lv_has ls 6 [(2, .int y2), (3, .int y3), (4, .int y4)] → sy_fix (fun _ _ _ _ => none) (m_Game_greatestCommonPart_B15) n15 y2 y3 y4 S = some (r, S') → W p l e (sy_rm 1 30) s m args below meth c H locs 0 0 (MQ below (sy_Qi E A r S') args s 0 0 A) (F0 m 15 ls []) := by
    intro n15
    induction n15 with
    | zero => intro y2 y3 y4 S H locs ls X hl h; have h9 : (none : sy_R) = some (r, S') := h; cases h9
    | succ n15 ih15 =>
      intro y2 y3 y4 S H locs ls X hl h
      have h : m_Game_greatestCommonPart_B15 (sy_fix (fun _ _ _ _ => none) (m_Game_greatestCommonPart_B15) n15) y2 y3 y4 S = some (r, S') := h
      unfold m_Game_greatestCommonPart_B15 at h
      refine lv_iload hx hb dX4_greatestCommonPart_15 (lv_at hl 2 rfl) ?_
      refine lv_bipush (v := 100) hx hb dX4_greatestCommonPart_17 (by decide) ?_
      refine lv_icmp_ge (tgt := 42) hx hb dX4_greatestCommonPart_19 (by decide) (fun c3 => ?_) (fun c3 => ?_)
      · have h := sy_t c3 h
        refine lv_iconst (v := 1) hx hb dX4_greatestCommonPart_42 (by decide) ?_
        refine lv_iload_n hx hb dX4_greatestCommonPart_43 rfl (lv_at hl 0 rfl) ?_
        refine va_mmax (rest := []) hx hb (fx.2.2.1.trans hl.1.symm) hown (hts _ wm_950) (hts _ wm_413) (hts _ wm_414) (hts _ wm_415) (Nat.le_of_ble_eq_true rfl) (Nat.le_of_ble_eq_true rfl) (Nat.le_refl _) (Nat.le_refl _) dX4_greatestCommonPart_44 ?_
        exact sy_iret fx X hr hlk h dX4_greatestCommonPart_47
      · have h := sy_f c3 h
        refine lv_iload_n hx hb dX4_greatestCommonPart_22 rfl (lv_at hl 1 rfl) ?_
        refine lv_if_le (tgt := 42) hx hb dX4_greatestCommonPart_23 (by decide) (fun c4 => ?_) (fun c4 => ?_)
        · have h := sy_t c4 h
          refine lv_iconst (v := 1) hx hb dX4_greatestCommonPart_42 (by decide) ?_
          refine lv_iload_n hx hb dX4_greatestCommonPart_43 rfl (lv_at hl 0 rfl) ?_
          refine va_mmax (rest := []) hx hb (fx.2.2.1.trans hl.1.symm) hown (hts _ wm_950) (hts _ wm_413) (hts _ wm_414) (hts _ wm_415) (Nat.le_of_ble_eq_true rfl) (Nat.le_of_ble_eq_true rfl) (Nat.le_refl _) (Nat.le_refl _) dX4_greatestCommonPart_44 ?_
          exact sy_iret fx X hr hlk h dX4_greatestCommonPart_47
        · have h := sy_f c4 h
          refine lv_iload_n hx hb dX4_greatestCommonPart_26 rfl (lv_at hl 0 rfl) ?_
          refine lv_iload_n hx hb dX4_greatestCommonPart_27 rfl (lv_at hl 1 rfl) ?_
          obtain ⟨g5, h⟩ := sy_g_e h
          refine lv_irem hx hb dX4_greatestCommonPart_28 g5 ?_
          obtain ⟨x6, hx6, h⟩ := sy_b_e h
          refine sy_top hx6 ?_
          refine lv_istore (lv' := [(5, .int x6), (2, .int y2), (3, .int y3), (4, .int y4)]) hx hb dX4_greatestCommonPart_29 hl (by decide) rfl (fun ls hl => ?_)
          refine lv_iload_n hx hb dX4_greatestCommonPart_31 rfl (lv_at hl 2 rfl) ?_
          refine lv_istore_n (lv' := [(2, .int y3), (5, .int x6), (3, .int y3), (4, .int y4)]) hx hb dX4_greatestCommonPart_32 rfl hl (by decide) rfl (fun ls hl => ?_)
          refine lv_iload hx hb dX4_greatestCommonPart_33 (lv_at hl 1 rfl) ?_
          refine lv_istore_n (lv' := [(3, .int x6), (2, .int y3), (5, .int x6), (4, .int y4)]) hx hb dX4_greatestCommonPart_35 rfl hl (by decide) rfl (fun ls hl => ?_)
          obtain ⟨x7, hx7, h⟩ := sy_b_e h
          refine lv_iinc (v := x7) (lv' := [(4, .int x7), (3, .int x6), (2, .int y3), (5, .int x6)]) hx hb dX4_greatestCommonPart_36 hl (k := 3) rfl (by rw [hx7]; rfl) (by decide) rfl (fun ls hl => ?_)
          refine lv_goto (tgt := 15) hx hb dX4_greatestCommonPart_39 (by decide) ?_
          exact ih15 y3 x6 x7 S _ _ _ X (lv_sub hl [2, 1, 0] rfl) h
  unfold m_Game_greatestCommonPart at h
  refine lv_iload_n hx hb dX4_greatestCommonPart_0 rfl (lv_at hl 0 rfl) ?_
  refine lv_iload_n hx hb dX4_greatestCommonPart_1 rfl (lv_at hl 1 rfl) ?_
  refine va_mmax (rest := []) hx hb (fx.2.2.1.trans hl.1.symm) hown (hts _ wm_950) (hts _ wm_413) (hts _ wm_414) (hts _ wm_415) (Nat.le_of_ble_eq_true rfl) (Nat.le_of_ble_eq_true rfl) (Nat.le_refl _) (Nat.le_refl _) dX4_greatestCommonPart_2 ?_
  obtain ⟨x1, hx1, h⟩ := sy_b_e h
  refine sy_top hx1 ?_
  refine lv_istore_n (lv' := [(2, .int x1), (0, .int p0), (1, .int p1)]) hx hb dX4_greatestCommonPart_5 rfl hl (by decide) rfl (fun ls hl => ?_)
  refine lv_iload_n hx hb dX4_greatestCommonPart_6 rfl (lv_at hl 1 rfl) ?_
  refine lv_iload_n hx hb dX4_greatestCommonPart_7 rfl (lv_at hl 2 rfl) ?_
  refine va_mmin (rest := []) hx hb (fx.2.2.1.trans hl.1.symm) hown (hts _ wm_937) (hts _ wm_492) (hts _ wm_414) (hts _ wm_493) (Nat.le_of_ble_eq_true rfl) (Nat.le_of_ble_eq_true rfl) (Nat.le_refl _) (Nat.le_refl _) dX4_greatestCommonPart_8 ?_
  obtain ⟨x2, hx2, h⟩ := sy_b_e h
  refine sy_top hx2 ?_
  refine lv_istore_n (lv' := [(3, .int x2), (2, .int x1), (0, .int p0), (1, .int p1)]) hx hb dX4_greatestCommonPart_11 rfl hl (by decide) rfl (fun ls hl => ?_)
  refine lv_iconst (v := 0) hx hb dX4_greatestCommonPart_12 (by decide) ?_
  refine lv_istore (lv' := [(4, .int 0), (3, .int x2), (2, .int x1), (0, .int p0), (1, .int p1)]) hx hb dX4_greatestCommonPart_13 hl (by decide) rfl (fun ls hl => ?_)
  exact L_15 sy_F x1 x2 0 S _ _ _ X (lv_sub hl [2, 1, 0] rfl) h
def m_Game_valueOf (p0 : Int32) (p1 : Int32) (S : sy_St) : sy_R := sy_b (((S 391 0) * p0) + ((S 391 2) * (p1 - p0)) : Int32) fun x1 => sy_b (((S 391 1) * p0) + ((S 391 3) * (p1 - p0)) : Int32) fun x2 => some (sy_min x1 x2, S)
theorem cv_Game_valueOf : sy_cV RX4 yX4_valueOf cX4_valueOf 5 (some .int) 2 := ⟨wm_934, wm_935, wm_56, wm_936, by decide +kernel⟩
set_option maxRecDepth 100000 in
set_option maxHeartbeats 40000000 in
theorem c_Game_valueOf (l : Launch) {E : sy_ET} (ht : sy_OGame E) {p0 : Int32} {p1 : Int32} {S S' : sy_St} {r : Int32} (h : m_Game_valueOf p0 p1 S = some (r, S')) : sy_MI l yX4_valueOf cX4_valueOf 5 (some .int) 1 30 [.ref (sy_ad E 391), .int p0, .int p1] E S r S' := by
  refine sy_MI_of RX4 pn_4 rfl (Nat.le_of_ble_eq_true rfl) (fun p e s m args below meth c A ls fx hr hlk hA X hl => ?_)
  have hx := fx.1
  have hb := fx.2.1
  have hown := fx.2.2.2.1
  have hts := fx.2.2.2.2
  have hl : lv_has ls 5 [(0, .ref (sy_ad E 391)), (1, .int p0), (2, .int p1)] := hl
  unfold m_Game_valueOf at h
  refine lv_aload_n hx hb dX4_valueOf_0 rfl (lv_at hl 0 rfl) ?_
  refine sy_g4 fx X (sy_OGame_o ht) 0 (by decide) wm_921 (fun _ h9 => h9) rfl dX4_valueOf_1 ?_
  refine lv_iload_n hx hb dX4_valueOf_4 rfl (lv_at hl 1 rfl) ?_
  refine lv_imul hx hb dX4_valueOf_5 ?_
  refine lv_aload_n hx hb dX4_valueOf_6 rfl (lv_at hl 0 rfl) ?_
  refine sy_g4 fx X (sy_OGame_o ht) 2 (by decide) wm_923 (fun _ h9 => h9) rfl dX4_valueOf_7 ?_
  refine lv_iload_n hx hb dX4_valueOf_10 rfl (lv_at hl 2 rfl) ?_
  refine lv_iload_n hx hb dX4_valueOf_11 rfl (lv_at hl 1 rfl) ?_
  refine lv_isub hx hb dX4_valueOf_12 ?_
  refine lv_imul hx hb dX4_valueOf_13 ?_
  refine lv_iadd hx hb dX4_valueOf_14 ?_
  obtain ⟨x1, hx1, h⟩ := sy_b_e h
  refine sy_top hx1 ?_
  refine lv_istore_n (lv' := [(3, .int x1), (0, .ref (sy_ad E 391)), (1, .int p0), (2, .int p1)]) hx hb dX4_valueOf_15 rfl hl (by decide) rfl (fun ls hl => ?_)
  refine lv_aload_n hx hb dX4_valueOf_16 rfl (lv_at hl 1 rfl) ?_
  refine sy_g4 fx X (sy_OGame_o ht) 1 (by decide) wm_922 (fun _ h9 => h9) rfl dX4_valueOf_17 ?_
  refine lv_iload_n hx hb dX4_valueOf_20 rfl (lv_at hl 2 rfl) ?_
  refine lv_imul hx hb dX4_valueOf_21 ?_
  refine lv_aload_n hx hb dX4_valueOf_22 rfl (lv_at hl 1 rfl) ?_
  refine sy_g4 fx X (sy_OGame_o ht) 3 (by decide) wm_924 (fun _ h9 => h9) rfl dX4_valueOf_23 ?_
  refine lv_iload_n hx hb dX4_valueOf_26 rfl (lv_at hl 3 rfl) ?_
  refine lv_iload_n hx hb dX4_valueOf_27 rfl (lv_at hl 2 rfl) ?_
  refine lv_isub hx hb dX4_valueOf_28 ?_
  refine lv_imul hx hb dX4_valueOf_29 ?_
  refine lv_iadd hx hb dX4_valueOf_30 ?_
  obtain ⟨x2, hx2, h⟩ := sy_b_e h
  refine sy_top hx2 ?_
  refine lv_istore (lv' := [(4, .int x2), (3, .int x1), (0, .ref (sy_ad E 391)), (1, .int p0), (2, .int p1)]) hx hb dX4_valueOf_31 hl (by decide) rfl (fun ls hl => ?_)
  refine lv_iload_n hx hb dX4_valueOf_33 rfl (lv_at hl 1 rfl) ?_
  refine lv_iload hx hb dX4_valueOf_34 (lv_at hl 0 rfl) ?_
  refine va_mmin (rest := []) hx hb (fx.2.2.1.trans hl.1.symm) hown (hts _ wm_937) (hts _ wm_492) (hts _ wm_414) (hts _ wm_493) (Nat.le_of_ble_eq_true rfl) (Nat.le_of_ble_eq_true rfl) (Nat.le_refl _) (Nat.le_refl _) dX4_valueOf_36 ?_
  exact sy_iret fx X hr hlk h dX4_valueOf_39
