def m_Model_word (p0 : Int32) (S : sy_St) : sy_R := sy_c (m_Model_in p0 0 2 S) fun r2 S1 => if r2 = 0 then (some ((-1000000002), S1)) else (sy_g (sy_in p0 3) <| some (S1 399 p0.toNatClampNeg, S1))
theorem cv_Model_word : sy_cV RX12 yX12_word cX12_word 2 (some .int) 1 := ⟨wm_471, wm_472, wm_5, wm_473, by decide +kernel⟩
set_option maxRecDepth 100000 in
set_option maxHeartbeats 40000000 in
theorem c_Model_word (l : Launch) {E : sy_ET} (ht : sy_OModel E) {p0 : Int32} {S S' : sy_St} {r : Int32} (h : m_Model_word p0 S = some (r, S')) : sy_MI l yX12_word cX12_word 2 (some .int) 1 22 [.ref (sy_ad E 392), .int p0] E S r S' := by
  refine sy_MI_of RX12 pn_12 rfl (Nat.le_of_ble_eq_true rfl) (fun p e s m args below meth c A ls fx hr hlk hA X hl => ?_)
  have hx := fx.1
  have hb := fx.2.1
  have hown := fx.2.2.2.1
  have hts := fx.2.2.2.2
  have hl : lv_has ls 2 [(0, .ref (sy_ad E 392)), (1, .int p0)] := hl
  unfold m_Model_word at h
  refine lv_iload_n hx hb dX12_word_0 rfl (lv_at hl 1 rfl) ?_
  refine lv_iconst (v := 0) hx hb dX12_word_1 (by decide) ?_
  refine lv_iconst (v := 2) hx hb dX12_word_2 (by decide) ?_
  obtain ⟨r2, S1, hc3, h⟩ := sy_c_e h
  refine sy_si (rest := []) fx hA X hl.1 (c_Model_in l hc3) cv_Model_in wm_211 ⟨Nat.le_of_ble_eq_true rfl, Nat.le_of_ble_eq_true rfl, Nat.le_refl _, Nat.le_refl _⟩ rfl rfl (Nat.le_of_ble_eq_true rfl) dX12_word_3 (fun H locs X => ?_)
  refine lv_if_eq (tgt := 18) hx hb dX12_word_6 (by decide) (fun c4 => ?_) (fun c4 => ?_)
  · have h := sy_t c4 h
    refine lv_ldc (v := (-1000000002)) hx hb hown (hts _ wm_208) dX12_word_18 ?_
    exact sy_iret fx X hr hlk h dX12_word_20
  · have h := sy_f c4 h
    refine lv_aload_n hx hb dX12_word_9 rfl (lv_at hl 0 rfl) ?_
    refine sy_q11 fx X (sy_OModel_o ht) 21 (by decide) wm_173 (fun _ h9 => h9) rfl (sy_OModel_r21 ht) dX12_word_10 ?_
    refine lv_iload_n hx hb dX12_word_13 rfl (lv_at hl 1 rfl) ?_
    obtain ⟨g5, h⟩ := sy_g_e h
    refine sy_iald fx X (sy_OModel_a21 ht) g5 dX12_word_14 ?_
    refine lv_goto (tgt := 20) hx hb dX12_word_15 (by decide) ?_
    exact sy_iret fx X hr hlk h dX12_word_20
def m_Model_words_B237 (kk237 : Int32 → Int32 → Int32 → Int32 → Int32 → sy_St → sy_R) (y5 : Int32) (y13 : Int32) (y14 : Int32) (y15 : Int32) (y16 : Int32) (S : sy_St) : sy_R := if y16 = 0 then (if (y5 - y5 / 2 * 2) = 0 then (sy_g (¬ y15 = 0) <| some (y13 / y15, S)) else (sy_g (¬ y15 = 0) <| some (y14 / y15, S))) else (sy_g (¬ y16 = 0) <| sy_b (y15 - y15 / y16 * y16 : Int32) fun x41 => kk237 y5 y13 y14 y16 x41 S)
def m_Model_words_J212 (y5 : Int32) (y7 : Int32) (y9 : Int32) (t0 : Int32) (S : sy_St) : sy_R := if 2 ≤ y5 then (sy_fix (fun _ _ _ _ _ _ => none) (m_Model_words_B237) sy_F y5 t0 y7 y7 t0 S) else (sy_fix (fun _ _ _ _ _ _ => none) (m_Model_words_B237) sy_F y5 t0 y9 y9 t0 S)
def m_Model_words_J199 (y5 : Int32) (y6 : Int32) (y7 : Int32) (y8 : Int32) (y9 : Int32) (S : sy_St) : sy_R := if 2 ≤ y5 then (m_Model_words_J212 y5 y7 y9 y6 S) else (m_Model_words_J212 y5 y7 y9 y8 S)
def m_Model_words_J174 (y5 : Int32) (y6 : Int32) (y7 : Int32) (y8 : Int32) (y9 : Int32) (t0 : Int32) (S : sy_St) : sy_R := if (t0 * y9) ≤ y8 then (m_Model_words_J199 y5 y6 y7 y8 y9 S) else (m_Model_words_J199 y5 1 1 t0 1 S)
def m_Model_words_J164 (y1 : Int32) (y2 : Int32) (y5 : Int32) (y6 : Int32) (y7 : Int32) (y8 : Int32) (y9 : Int32) (S : sy_St) : sy_R := if y2 ≤ y1 then (m_Model_words_J174 y5 y6 y7 y8 y9 y2 S) else (m_Model_words_J174 y5 y6 y7 y8 y9 y1 S)
def m_Model_words_J108 (y1 : Int32) (y2 : Int32) (y3 : Int32) (y5 : Int32) (y6 : Int32) (y7 : Int32) (y8 : Int32) (y9 : Int32) (y10 : Int32) (y11 : Int32) (S : sy_St) : sy_R := if y10 ≤ 0 then (m_Model_words_J164 y1 y2 y5 y6 y7 y8 y9 S) else (if y11 ≤ 0 then (m_Model_words_J164 y1 y2 y5 y6 y7 y8 y9 S) else (if y10 ≤ y11 then (m_Model_words_J164 y1 y2 y5 y6 y7 y8 y9 S) else (sy_b ((y3 * y10) + (y11 * (y1 - y3)) : Int32) fun x30 => if x30 ≤ (y8 * y10) then (m_Model_words_J164 y1 y2 y5 y6 y7 y8 y9 S) else (m_Model_words_J164 y1 y2 y5 y11 y10 x30 y10 S))))
def m_Model_words_J72 (y1 : Int32) (y2 : Int32) (y3 : Int32) (y4 : Int32) (y5 : Int32) (y6 : Int32) (y7 : Int32) (t0 : Int32) (S : sy_St) : sy_R := sy_b (((y1 - y3) - y2) + y4 : Int32) fun x22 => sy_b (y4 - y3 : Int32) fun x23 => if 0 ≤ x22 then (m_Model_words_J108 y1 y2 y3 y5 y6 y7 t0 1 x22 x23 S) else (sy_b (-x22 : Int32) fun x25 => sy_b (-x23 : Int32) fun x26 => m_Model_words_J108 y1 y2 y3 y5 y6 y7 t0 1 x25 x26 S)
def m_Model_words (p0 : Int32) (p1 : Int32) (p2 : Int32) (p3 : Int32) (p4 : Int32) (S : sy_St) : sy_R := sy_c (m_Model_in p0 0 9 S) fun r2 S1 => if r2 = 0 then (some ((-1000000002), S1)) else (sy_c (m_Model_in p1 0 9 S1) fun r6 S5 => if r6 = 0 then (some ((-1000000002), S5)) else (sy_c (m_Model_in p2 0 9 S5) fun r10 S9 => if r10 = 0 then (some ((-1000000002), S9)) else (sy_c (m_Model_in p3 0 9 S9) fun r14 S13 => if r14 = 0 then (some ((-1000000002), S13)) else (sy_c (m_Model_in p4 0 3 S13) fun r18 S17 => if r18 = 0 then (some ((-1000000002), S17)) else (if p3 ≤ p2 then (m_Model_words_J72 p0 p1 p2 p3 p4 0 1 p3 S17) else (m_Model_words_J72 p0 p1 p2 p3 p4 0 1 p2 S17))))))
theorem cv_Model_words : sy_cV RX12 yX12_words cX12_words 18 (some .int) 5 := ⟨wm_952, wm_953, wm_5, wm_954, by decide +kernel⟩
set_option maxRecDepth 100000 in
set_option maxHeartbeats 40000000 in
theorem c_Model_words (l : Launch) {E : sy_ET} (ht : sy_OModel E) {p0 : Int32} {p1 : Int32} {p2 : Int32} {p3 : Int32} {p4 : Int32} {S S' : sy_St} {r : Int32} (h : m_Model_words p0 p1 p2 p3 p4 S = some (r, S')) : sy_MI l yX12_words cX12_words 18 (some .int) 1 22 [.ref (sy_ad E 392), .int p0, .int p1, .int p2, .int p3, .int p4] E S r S' := by
  refine sy_MI_of RX12 pn_12 rfl (Nat.le_of_ble_eq_true rfl) (fun p e s m args below meth c A ls fx hr hlk hA X hl => ?_)
  have hx := fx.1
  have hb := fx.2.1
  have hown := fx.2.2.2.1
  have hts := fx.2.2.2.2
  have hl : lv_has ls 18 [(0, .ref (sy_ad E 392)), (1, .int p0), (2, .int p1), (3, .int p2), (4, .int p3), (5, .int p4)] := hl
  have L_237 : ∀ (n237 : Nat) (y5 y13 y14 y15 y16 : Int32) (S : sy_St) (H : Heap) (locs : List Loc) (ls : Array Slot), sy_Wd E A s S H locs → lv_has ls 18 [(5, .int y5), (13, .int y13), (14, .int y14), (15, .int y15), (16, .int y16)] → sy_fix (fun _ _ _ _ _ _ => none) (m_Model_words_B237) n237 y5 y13 y14 y15 y16 S = some (r, S') → W p l e (sy_rm 1 22) s m args below meth c H locs 0 0 (MQ below (sy_Qi E A r S') args s 0 0 A) (F0 m 237 ls []) := by
    intro n237
    induction n237 with
    | zero => intro y5 y13 y14 y15 y16 S H locs ls X hl h; have h9 : (none : sy_R) = some (r, S') := h; cases h9
    | succ n237 ih237 =>
      intro y5 y13 y14 y15 y16 S H locs ls X hl h
      have h : m_Model_words_B237 (sy_fix (fun _ _ _ _ _ _ => none) (m_Model_words_B237) n237) y5 y13 y14 y15 y16 S = some (r, S') := h
      unfold m_Model_words_B237 at h
      refine lv_iload hx hb dX12_words_237 (lv_at hl 4 rfl) ?_
      refine lv_if_eq (tgt := 260) hx hb dX12_words_239 (by decide) (fun c36 => ?_) (fun c36 => ?_)
      · have h := sy_t c36 h
        refine lv_iload hx hb dX12_words_260 (lv_at hl 0 rfl) ?_
        refine lv_iconst (v := 2) hx hb dX12_words_262 (by decide) ?_
        refine lv_irem hx hb dX12_words_263 (by decide) ?_
        refine lv_if_ne (tgt := 272) hx hb dX12_words_264 (by decide) (fun c37 => ?_) (fun c37 => ?_)
        · have h := sy_f c37 h
          refine lv_iload hx hb dX12_words_272 (lv_at hl 2 rfl) ?_
          refine lv_iload hx hb dX12_words_274 (lv_at hl 3 rfl) ?_
          obtain ⟨g38, h⟩ := sy_g_e h
          refine lv_idiv hx hb dX12_words_276 g38 ?_
          exact sy_iret fx X hr hlk h dX12_words_277
        · have h := sy_t c37 h
          refine lv_iload hx hb dX12_words_267 (lv_at hl 1 rfl) ?_
          refine lv_goto (tgt := 274) hx hb dX12_words_269 (by decide) ?_
          refine lv_iload hx hb dX12_words_274 (lv_at hl 3 rfl) ?_
          obtain ⟨g39, h⟩ := sy_g_e h
          refine lv_idiv hx hb dX12_words_276 g39 ?_
          exact sy_iret fx X hr hlk h dX12_words_277
      · have h := sy_f c36 h
        refine lv_iload hx hb dX12_words_242 (lv_at hl 3 rfl) ?_
        refine lv_iload hx hb dX12_words_244 (lv_at hl 4 rfl) ?_
        obtain ⟨g40, h⟩ := sy_g_e h
        refine lv_irem hx hb dX12_words_246 g40 ?_
        obtain ⟨x41, hx41, h⟩ := sy_b_e h
        refine sy_top hx41 ?_
        refine lv_istore (lv' := [(17, .int x41), (5, .int y5), (13, .int y13), (14, .int y14), (15, .int y15), (16, .int y16)]) hx hb dX12_words_247 hl (by decide) rfl (fun ls hl => ?_)
        refine lv_iload hx hb dX12_words_249 (lv_at hl 5 rfl) ?_
        refine lv_istore (lv' := [(15, .int y16), (17, .int x41), (5, .int y5), (13, .int y13), (14, .int y14), (16, .int y16)]) hx hb dX12_words_251 hl (by decide) rfl (fun ls hl => ?_)
        refine lv_iload hx hb dX12_words_253 (lv_at hl 1 rfl) ?_
        refine lv_istore (lv' := [(16, .int x41), (15, .int y16), (17, .int x41), (5, .int y5), (13, .int y13), (14, .int y14)]) hx hb dX12_words_255 hl (by decide) rfl (fun ls hl => ?_)
        refine lv_goto (tgt := 237) hx hb dX12_words_257 (by decide) ?_
        exact ih237 y5 y13 y14 y16 x41 S _ _ _ X (lv_sub hl [3, 4, 5, 1, 0] rfl) h
  have J_212 : ∀ (y5 y7 y9 t0 : Int32) (S : sy_St) (H : Heap) (locs : List Loc) (ls : Array Slot), sy_Wd E A s S H locs → lv_has ls 18 [(5, .int y5), (7, .int y7), (9, .int y9)] → m_Model_words_J212 y5 y7 y9 t0 S = some (r, S') → W p l e (sy_rm 1 22) s m args below meth c H locs 0 0 (MQ below (sy_Qi E A r S') args s 0 0 A) (F0 m 212 ls [.int t0]) := by
    intro y5 y7 y9 t0 S H locs ls X hl h
    unfold m_Model_words_J212 at h
    refine lv_istore (lv' := [(13, .int t0), (5, .int y5), (7, .int y7), (9, .int y9)]) hx hb dX12_words_212 hl (by decide) rfl (fun ls hl => ?_)
    refine lv_iload hx hb dX12_words_214 (lv_at hl 1 rfl) ?_
    refine lv_iconst (v := 2) hx hb dX12_words_216 (by decide) ?_
    refine lv_icmp_ge (tgt := 225) hx hb dX12_words_217 (by decide) (fun c35 => ?_) (fun c35 => ?_)
    · have h := sy_t c35 h
      refine lv_iload hx hb dX12_words_225 (lv_at hl 2 rfl) ?_
      refine lv_istore (lv' := [(14, .int y7), (13, .int t0), (5, .int y5), (7, .int y7), (9, .int y9)]) hx hb dX12_words_227 hl (by decide) rfl (fun ls hl => ?_)
      refine lv_iload hx hb dX12_words_229 (lv_at hl 0 rfl) ?_
      refine lv_istore (lv' := [(15, .int y7), (14, .int y7), (13, .int t0), (5, .int y5), (7, .int y7), (9, .int y9)]) hx hb dX12_words_231 hl (by decide) rfl (fun ls hl => ?_)
      refine lv_iload hx hb dX12_words_233 (lv_at hl 2 rfl) ?_
      refine lv_istore (lv' := [(16, .int t0), (15, .int y7), (14, .int y7), (13, .int t0), (5, .int y5), (7, .int y7), (9, .int y9)]) hx hb dX12_words_235 hl (by decide) rfl (fun ls hl => ?_)
      exact L_237 sy_F y5 t0 y7 y7 t0 S _ _ _ X (lv_sub hl [4, 3, 2, 1, 0] rfl) h
    · have h := sy_f c35 h
      refine lv_iload hx hb dX12_words_220 (lv_at hl 3 rfl) ?_
      refine lv_goto (tgt := 227) hx hb dX12_words_222 (by decide) ?_
      refine lv_istore (lv' := [(14, .int y9), (13, .int t0), (5, .int y5), (7, .int y7), (9, .int y9)]) hx hb dX12_words_227 hl (by decide) rfl (fun ls hl => ?_)
      refine lv_iload hx hb dX12_words_229 (lv_at hl 0 rfl) ?_
      refine lv_istore (lv' := [(15, .int y9), (14, .int y9), (13, .int t0), (5, .int y5), (7, .int y7), (9, .int y9)]) hx hb dX12_words_231 hl (by decide) rfl (fun ls hl => ?_)
      refine lv_iload hx hb dX12_words_233 (lv_at hl 2 rfl) ?_
      refine lv_istore (lv' := [(16, .int t0), (15, .int y9), (14, .int y9), (13, .int t0), (5, .int y5), (7, .int y7), (9, .int y9)]) hx hb dX12_words_235 hl (by decide) rfl (fun ls hl => ?_)
      exact L_237 sy_F y5 t0 y9 y9 t0 S _ _ _ X (lv_sub hl [4, 3, 2, 1, 0] rfl) h
  have J_199 : ∀ (y5 y6 y7 y8 y9 : Int32) (S : sy_St) (H : Heap) (locs : List Loc) (ls : Array Slot), sy_Wd E A s S H locs → lv_has ls 18 [(5, .int y5), (6, .int y6), (7, .int y7), (8, .int y8), (9, .int y9)] → m_Model_words_J199 y5 y6 y7 y8 y9 S = some (r, S') → W p l e (sy_rm 1 22) s m args below meth c H locs 0 0 (MQ below (sy_Qi E A r S') args s 0 0 A) (F0 m 199 ls []) := by
    intro y5 y6 y7 y8 y9 S H locs ls X hl h
    unfold m_Model_words_J199 at h
    refine lv_iload hx hb dX12_words_199 (lv_at hl 0 rfl) ?_
    refine lv_iconst (v := 2) hx hb dX12_words_201 (by decide) ?_
    refine lv_icmp_ge (tgt := 210) hx hb dX12_words_202 (by decide) (fun c34 => ?_) (fun c34 => ?_)
    · have h := sy_t c34 h
      refine lv_iload hx hb dX12_words_210 (lv_at hl 1 rfl) ?_
      exact J_212 y5 y7 y9 y6 S _ _ _ X (lv_sub hl [0, 2, 4] rfl) h
    · have h := sy_f c34 h
      refine lv_iload hx hb dX12_words_205 (lv_at hl 3 rfl) ?_
      refine lv_goto (tgt := 212) hx hb dX12_words_207 (by decide) ?_
      exact J_212 y5 y7 y9 y8 S _ _ _ X (lv_sub hl [0, 2, 4] rfl) h
  have J_174 : ∀ (y5 y6 y7 y8 y9 t0 : Int32) (S : sy_St) (H : Heap) (locs : List Loc) (ls : Array Slot), sy_Wd E A s S H locs → lv_has ls 18 [(5, .int y5), (6, .int y6), (7, .int y7), (8, .int y8), (9, .int y9)] → m_Model_words_J174 y5 y6 y7 y8 y9 t0 S = some (r, S') → W p l e (sy_rm 1 22) s m args below meth c H locs 0 0 (MQ below (sy_Qi E A r S') args s 0 0 A) (F0 m 174 ls [.int t0]) := by
    intro y5 y6 y7 y8 y9 t0 S H locs ls X hl h
    unfold m_Model_words_J174 at h
    refine lv_istore (lv' := [(12, .int t0), (5, .int y5), (6, .int y6), (7, .int y7), (8, .int y8), (9, .int y9)]) hx hb dX12_words_174 hl (by decide) rfl (fun ls hl => ?_)
    refine lv_iload hx hb dX12_words_176 (lv_at hl 0 rfl) ?_
    refine lv_iload hx hb dX12_words_178 (lv_at hl 5 rfl) ?_
    refine lv_imul hx hb dX12_words_180 ?_
    refine lv_iload hx hb dX12_words_181 (lv_at hl 4 rfl) ?_
    refine lv_icmp_le (tgt := 199) hx hb dX12_words_183 (by decide) (fun c33 => ?_) (fun c33 => ?_)
    · have h := sy_t c33 h
      exact J_199 y5 y6 y7 y8 y9 S _ _ _ X (lv_sub hl [1, 2, 3, 4, 5] rfl) h
    · have h := sy_f c33 h
      refine lv_iconst (v := 1) hx hb dX12_words_186 (by decide) ?_
      refine lv_istore (lv' := [(6, .int 1), (12, .int t0), (5, .int y5), (7, .int y7), (8, .int y8), (9, .int y9)]) hx hb dX12_words_187 hl (by decide) rfl (fun ls hl => ?_)
      refine lv_iconst (v := 1) hx hb dX12_words_189 (by decide) ?_
      refine lv_istore (lv' := [(7, .int 1), (6, .int 1), (12, .int t0), (5, .int y5), (8, .int y8), (9, .int y9)]) hx hb dX12_words_190 hl (by decide) rfl (fun ls hl => ?_)
      refine lv_iload hx hb dX12_words_192 (lv_at hl 2 rfl) ?_
      refine lv_istore (lv' := [(8, .int t0), (7, .int 1), (6, .int 1), (12, .int t0), (5, .int y5), (9, .int y9)]) hx hb dX12_words_194 hl (by decide) rfl (fun ls hl => ?_)
      refine lv_iconst (v := 1) hx hb dX12_words_196 (by decide) ?_
      refine lv_istore (lv' := [(9, .int 1), (8, .int t0), (7, .int 1), (6, .int 1), (12, .int t0), (5, .int y5)]) hx hb dX12_words_197 hl (by decide) rfl (fun ls hl => ?_)
      exact J_199 y5 1 1 t0 1 S _ _ _ X (lv_sub hl [5, 3, 2, 1, 0] rfl) h
  have J_164 : ∀ (y1 y2 y5 y6 y7 y8 y9 : Int32) (S : sy_St) (H : Heap) (locs : List Loc) (ls : Array Slot), sy_Wd E A s S H locs → lv_has ls 18 [(1, .int y1), (2, .int y2), (5, .int y5), (6, .int y6), (7, .int y7), (8, .int y8), (9, .int y9)] → m_Model_words_J164 y1 y2 y5 y6 y7 y8 y9 S = some (r, S') → W p l e (sy_rm 1 22) s m args below meth c H locs 0 0 (MQ below (sy_Qi E A r S') args s 0 0 A) (F0 m 164 ls []) := by
    intro y1 y2 y5 y6 y7 y8 y9 S H locs ls X hl h
    unfold m_Model_words_J164 at h
    refine lv_iload_n hx hb dX12_words_164 rfl (lv_at hl 0 rfl) ?_
    refine lv_iload_n hx hb dX12_words_165 rfl (lv_at hl 1 rfl) ?_
    refine lv_icmp_ge (tgt := 173) hx hb dX12_words_166 (by decide) (fun c32 => ?_) (fun c32 => ?_)
    · have h := sy_t c32 h
      refine lv_iload_n hx hb dX12_words_173 rfl (lv_at hl 1 rfl) ?_
      exact J_174 y5 y6 y7 y8 y9 y2 S _ _ _ X (lv_sub hl [2, 3, 4, 5, 6] rfl) h
    · have h := sy_f c32 h
      refine lv_iload_n hx hb dX12_words_169 rfl (lv_at hl 0 rfl) ?_
      refine lv_goto (tgt := 174) hx hb dX12_words_170 (by decide) ?_
      exact J_174 y5 y6 y7 y8 y9 y1 S _ _ _ X (lv_sub hl [2, 3, 4, 5, 6] rfl) h
  have J_108 : ∀ (y1 y2 y3 y5 y6 y7 y8 y9 y10 y11 : Int32) (S : sy_St) (H : Heap) (locs : List Loc) (ls : Array Slot), sy_Wd E A s S H locs → lv_has ls 18 [(1, .int y1), (2, .int y2), (3, .int y3), (5, .int y5), (6, .int y6), (7, .int y7), (8, .int y8), (9, .int y9), (10, .int y10), (11, .int y11)] → m_Model_words_J108 y1 y2 y3 y5 y6 y7 y8 y9 y10 y11 S = some (r, S') → W p l e (sy_rm 1 22) s m args below meth c H locs 0 0 (MQ below (sy_Qi E A r S') args s 0 0 A) (F0 m 108 ls []) := by
    intro y1 y2 y3 y5 y6 y7 y8 y9 y10 y11 S H locs ls X hl h
    unfold m_Model_words_J108 at h
    refine lv_iload hx hb dX12_words_108 (lv_at hl 8 rfl) ?_
    refine lv_if_le (tgt := 164) hx hb dX12_words_110 (by decide) (fun c27 => ?_) (fun c27 => ?_)
    · have h := sy_t c27 h
      exact J_164 y1 y2 y5 y6 y7 y8 y9 S _ _ _ X (lv_sub hl [0, 1, 3, 4, 5, 6, 7] rfl) h
    · have h := sy_f c27 h
      refine lv_iload hx hb dX12_words_113 (lv_at hl 9 rfl) ?_
      refine lv_if_le (tgt := 164) hx hb dX12_words_115 (by decide) (fun c28 => ?_) (fun c28 => ?_)
      · have h := sy_t c28 h
        exact J_164 y1 y2 y5 y6 y7 y8 y9 S _ _ _ X (lv_sub hl [0, 1, 3, 4, 5, 6, 7] rfl) h
      · have h := sy_f c28 h
        refine lv_iload hx hb dX12_words_118 (lv_at hl 9 rfl) ?_
        refine lv_iload hx hb dX12_words_120 (lv_at hl 8 rfl) ?_
        refine lv_icmp_ge (tgt := 164) hx hb dX12_words_122 (by decide) (fun c29 => ?_) (fun c29 => ?_)
        · have h := sy_t c29 h
          exact J_164 y1 y2 y5 y6 y7 y8 y9 S _ _ _ X (lv_sub hl [0, 1, 3, 4, 5, 6, 7] rfl) h
        · have h := sy_f c29 h
          refine lv_iload_n hx hb dX12_words_125 rfl (lv_at hl 2 rfl) ?_
          refine lv_iload hx hb dX12_words_126 (lv_at hl 8 rfl) ?_
          refine lv_imul hx hb dX12_words_128 ?_
          refine lv_iload hx hb dX12_words_129 (lv_at hl 9 rfl) ?_
          refine lv_iload_n hx hb dX12_words_131 rfl (lv_at hl 0 rfl) ?_
          refine lv_iload_n hx hb dX12_words_132 rfl (lv_at hl 2 rfl) ?_
          refine lv_isub hx hb dX12_words_133 ?_
          refine lv_imul hx hb dX12_words_134 ?_
          refine lv_iadd hx hb dX12_words_135 ?_
          obtain ⟨x30, hx30, h⟩ := sy_b_e h
          refine sy_top hx30 ?_
          refine lv_istore (lv' := [(12, .int x30), (1, .int y1), (2, .int y2), (3, .int y3), (5, .int y5), (6, .int y6), (7, .int y7), (8, .int y8), (9, .int y9), (10, .int y10), (11, .int y11)]) hx hb dX12_words_136 hl (by decide) rfl (fun ls hl => ?_)
          refine lv_iload hx hb dX12_words_138 (lv_at hl 0 rfl) ?_
          refine lv_iload hx hb dX12_words_140 (lv_at hl 7 rfl) ?_
          refine lv_iload hx hb dX12_words_142 (lv_at hl 9 rfl) ?_
          refine lv_imul hx hb dX12_words_144 ?_
          refine lv_icmp_le (tgt := 164) hx hb dX12_words_145 (by decide) (fun c31 => ?_) (fun c31 => ?_)
          · have h := sy_t c31 h
            exact J_164 y1 y2 y5 y6 y7 y8 y9 S _ _ _ X (lv_sub hl [1, 2, 4, 5, 6, 7, 8] rfl) h
          · have h := sy_f c31 h
            refine lv_iload hx hb dX12_words_148 (lv_at hl 10 rfl) ?_
            refine lv_istore (lv' := [(6, .int y11), (12, .int x30), (1, .int y1), (2, .int y2), (3, .int y3), (5, .int y5), (7, .int y7), (8, .int y8), (9, .int y9), (10, .int y10), (11, .int y11)]) hx hb dX12_words_150 hl (by decide) rfl (fun ls hl => ?_)
            refine lv_iload hx hb dX12_words_152 (lv_at hl 9 rfl) ?_
            refine lv_istore (lv' := [(7, .int y10), (6, .int y11), (12, .int x30), (1, .int y1), (2, .int y2), (3, .int y3), (5, .int y5), (8, .int y8), (9, .int y9), (10, .int y10), (11, .int y11)]) hx hb dX12_words_154 hl (by decide) rfl (fun ls hl => ?_)
            refine lv_iload hx hb dX12_words_156 (lv_at hl 2 rfl) ?_
            refine lv_istore (lv' := [(8, .int x30), (7, .int y10), (6, .int y11), (12, .int x30), (1, .int y1), (2, .int y2), (3, .int y3), (5, .int y5), (9, .int y9), (10, .int y10), (11, .int y11)]) hx hb dX12_words_158 hl (by decide) rfl (fun ls hl => ?_)
            refine lv_iload hx hb dX12_words_160 (lv_at hl 9 rfl) ?_
            refine lv_istore (lv' := [(9, .int y10), (8, .int x30), (7, .int y10), (6, .int y11), (12, .int x30), (1, .int y1), (2, .int y2), (3, .int y3), (5, .int y5), (10, .int y10), (11, .int y11)]) hx hb dX12_words_162 hl (by decide) rfl (fun ls hl => ?_)
            exact J_164 y1 y2 y5 y11 y10 x30 y10 S _ _ _ X (lv_sub hl [5, 6, 8, 3, 2, 1, 0] rfl) h
  have J_72 : ∀ (y1 y2 y3 y4 y5 y6 y7 t0 : Int32) (S : sy_St) (H : Heap) (locs : List Loc) (ls : Array Slot), sy_Wd E A s S H locs → lv_has ls 18 [(1, .int y1), (2, .int y2), (3, .int y3), (4, .int y4), (5, .int y5), (6, .int y6), (7, .int y7)] → m_Model_words_J72 y1 y2 y3 y4 y5 y6 y7 t0 S = some (r, S') → W p l e (sy_rm 1 22) s m args below meth c H locs 0 0 (MQ below (sy_Qi E A r S') args s 0 0 A) (F0 m 72 ls [.int t0]) := by
    intro y1 y2 y3 y4 y5 y6 y7 t0 S H locs ls X hl h
    unfold m_Model_words_J72 at h
    refine lv_istore (lv' := [(8, .int t0), (1, .int y1), (2, .int y2), (3, .int y3), (4, .int y4), (5, .int y5), (6, .int y6), (7, .int y7)]) hx hb dX12_words_72 hl (by decide) rfl (fun ls hl => ?_)
    refine lv_iconst (v := 1) hx hb dX12_words_74 (by decide) ?_
    refine lv_istore (lv' := [(9, .int 1), (8, .int t0), (1, .int y1), (2, .int y2), (3, .int y3), (4, .int y4), (5, .int y5), (6, .int y6), (7, .int y7)]) hx hb dX12_words_75 hl (by decide) rfl (fun ls hl => ?_)
    refine lv_iload_n hx hb dX12_words_77 rfl (lv_at hl 2 rfl) ?_
    refine lv_iload_n hx hb dX12_words_78 rfl (lv_at hl 4 rfl) ?_
    refine lv_isub hx hb dX12_words_79 ?_
    refine lv_iload_n hx hb dX12_words_80 rfl (lv_at hl 3 rfl) ?_
    refine lv_isub hx hb dX12_words_81 ?_
    refine lv_iload hx hb dX12_words_82 (lv_at hl 5 rfl) ?_
    refine lv_iadd hx hb dX12_words_84 ?_
    obtain ⟨x22, hx22, h⟩ := sy_b_e h
    refine sy_top hx22 ?_
    refine lv_istore (lv' := [(10, .int x22), (9, .int 1), (8, .int t0), (1, .int y1), (2, .int y2), (3, .int y3), (4, .int y4), (5, .int y5), (6, .int y6), (7, .int y7)]) hx hb dX12_words_85 hl (by decide) rfl (fun ls hl => ?_)
    refine lv_iload hx hb dX12_words_87 (lv_at hl 6 rfl) ?_
    refine lv_iload_n hx hb dX12_words_89 rfl (lv_at hl 5 rfl) ?_
    refine lv_isub hx hb dX12_words_90 ?_
    obtain ⟨x23, hx23, h⟩ := sy_b_e h
    refine sy_top hx23 ?_
    refine lv_istore (lv' := [(11, .int x23), (10, .int x22), (9, .int 1), (8, .int t0), (1, .int y1), (2, .int y2), (3, .int y3), (4, .int y4), (5, .int y5), (6, .int y6), (7, .int y7)]) hx hb dX12_words_91 hl (by decide) rfl (fun ls hl => ?_)
    refine lv_iload hx hb dX12_words_93 (lv_at hl 1 rfl) ?_
    refine lv_if_ge (tgt := 108) hx hb dX12_words_95 (by decide) (fun c24 => ?_) (fun c24 => ?_)
    · have h := sy_t c24 h
      exact J_108 y1 y2 y3 y5 y6 y7 t0 1 x22 x23 S _ _ _ X (lv_sub hl [4, 5, 6, 8, 9, 10, 3, 2, 1, 0] rfl) h
    · have h := sy_f c24 h
      refine lv_iload hx hb dX12_words_98 (lv_at hl 1 rfl) ?_
      refine lv_ineg hx hb dX12_words_100 ?_
      obtain ⟨x25, hx25, h⟩ := sy_b_e h
      refine sy_top hx25 ?_
      refine lv_istore (lv' := [(10, .int x25), (11, .int x23), (9, .int 1), (8, .int t0), (1, .int y1), (2, .int y2), (3, .int y3), (4, .int y4), (5, .int y5), (6, .int y6), (7, .int y7)]) hx hb dX12_words_101 hl (by decide) rfl (fun ls hl => ?_)
      refine lv_iload hx hb dX12_words_103 (lv_at hl 1 rfl) ?_
      refine lv_ineg hx hb dX12_words_105 ?_
      obtain ⟨x26, hx26, h⟩ := sy_b_e h
      refine sy_top hx26 ?_
      refine lv_istore (lv' := [(11, .int x26), (10, .int x25), (9, .int 1), (8, .int t0), (1, .int y1), (2, .int y2), (3, .int y3), (4, .int y4), (5, .int y5), (6, .int y6), (7, .int y7)]) hx hb dX12_words_106 hl (by decide) rfl (fun ls hl => ?_)
      exact J_108 y1 y2 y3 y5 y6 y7 t0 1 x25 x26 S _ _ _ X (lv_sub hl [4, 5, 6, 8, 9, 10, 3, 2, 1, 0] rfl) h
  unfold m_Model_words at h
  refine lv_iload_n hx hb dX12_words_0 rfl (lv_at hl 1 rfl) ?_
  refine lv_iconst (v := 0) hx hb dX12_words_1 (by decide) ?_
  refine lv_bipush (v := 9) hx hb dX12_words_2 (by decide) ?_
  obtain ⟨r2, S1, hc3, h⟩ := sy_c_e h
  refine sy_si (rest := []) fx hA X hl.1 (c_Model_in l hc3) cv_Model_in wm_211 ⟨Nat.le_of_ble_eq_true rfl, Nat.le_of_ble_eq_true rfl, Nat.le_refl _, Nat.le_refl _⟩ rfl rfl (Nat.le_of_ble_eq_true rfl) dX12_words_4 (fun H locs X => ?_)
  refine lv_if_eq (tgt := 51) hx hb dX12_words_7 (by decide) (fun c4 => ?_) (fun c4 => ?_)
  · have h := sy_t c4 h
    refine lv_ldc (v := (-1000000002)) hx hb hown (hts _ wm_208) dX12_words_51 ?_
    exact sy_iret fx X hr hlk h dX12_words_53
  · have h := sy_f c4 h
    refine lv_iload_n hx hb dX12_words_10 rfl (lv_at hl 2 rfl) ?_
    refine lv_iconst (v := 0) hx hb dX12_words_11 (by decide) ?_
    refine lv_bipush (v := 9) hx hb dX12_words_12 (by decide) ?_
    obtain ⟨r6, S5, hc7, h⟩ := sy_c_e h
    refine sy_si (rest := []) fx hA X hl.1 (c_Model_in l hc7) cv_Model_in wm_211 ⟨Nat.le_of_ble_eq_true rfl, Nat.le_of_ble_eq_true rfl, Nat.le_refl _, Nat.le_refl _⟩ rfl rfl (Nat.le_of_ble_eq_true rfl) dX12_words_14 (fun H locs X => ?_)
    refine lv_if_eq (tgt := 51) hx hb dX12_words_17 (by decide) (fun c8 => ?_) (fun c8 => ?_)
    · have h := sy_t c8 h
      refine lv_ldc (v := (-1000000002)) hx hb hown (hts _ wm_208) dX12_words_51 ?_
      exact sy_iret fx X hr hlk h dX12_words_53
    · have h := sy_f c8 h
      refine lv_iload_n hx hb dX12_words_20 rfl (lv_at hl 3 rfl) ?_
      refine lv_iconst (v := 0) hx hb dX12_words_21 (by decide) ?_
      refine lv_bipush (v := 9) hx hb dX12_words_22 (by decide) ?_
      obtain ⟨r10, S9, hc11, h⟩ := sy_c_e h
      refine sy_si (rest := []) fx hA X hl.1 (c_Model_in l hc11) cv_Model_in wm_211 ⟨Nat.le_of_ble_eq_true rfl, Nat.le_of_ble_eq_true rfl, Nat.le_refl _, Nat.le_refl _⟩ rfl rfl (Nat.le_of_ble_eq_true rfl) dX12_words_24 (fun H locs X => ?_)
      refine lv_if_eq (tgt := 51) hx hb dX12_words_27 (by decide) (fun c12 => ?_) (fun c12 => ?_)
      · have h := sy_t c12 h
        refine lv_ldc (v := (-1000000002)) hx hb hown (hts _ wm_208) dX12_words_51 ?_
        exact sy_iret fx X hr hlk h dX12_words_53
      · have h := sy_f c12 h
        refine lv_iload hx hb dX12_words_30 (lv_at hl 4 rfl) ?_
        refine lv_iconst (v := 0) hx hb dX12_words_32 (by decide) ?_
        refine lv_bipush (v := 9) hx hb dX12_words_33 (by decide) ?_
        obtain ⟨r14, S13, hc15, h⟩ := sy_c_e h
        refine sy_si (rest := []) fx hA X hl.1 (c_Model_in l hc15) cv_Model_in wm_211 ⟨Nat.le_of_ble_eq_true rfl, Nat.le_of_ble_eq_true rfl, Nat.le_refl _, Nat.le_refl _⟩ rfl rfl (Nat.le_of_ble_eq_true rfl) dX12_words_35 (fun H locs X => ?_)
        refine lv_if_eq (tgt := 51) hx hb dX12_words_38 (by decide) (fun c16 => ?_) (fun c16 => ?_)
        · have h := sy_t c16 h
          refine lv_ldc (v := (-1000000002)) hx hb hown (hts _ wm_208) dX12_words_51 ?_
          exact sy_iret fx X hr hlk h dX12_words_53
        · have h := sy_f c16 h
          refine lv_iload hx hb dX12_words_41 (lv_at hl 5 rfl) ?_
          refine lv_iconst (v := 0) hx hb dX12_words_43 (by decide) ?_
          refine lv_iconst (v := 3) hx hb dX12_words_44 (by decide) ?_
          obtain ⟨r18, S17, hc19, h⟩ := sy_c_e h
          refine sy_si (rest := []) fx hA X hl.1 (c_Model_in l hc19) cv_Model_in wm_211 ⟨Nat.le_of_ble_eq_true rfl, Nat.le_of_ble_eq_true rfl, Nat.le_refl _, Nat.le_refl _⟩ rfl rfl (Nat.le_of_ble_eq_true rfl) dX12_words_45 (fun H locs X => ?_)
          refine lv_if_ne (tgt := 54) hx hb dX12_words_48 (by decide) (fun c20 => ?_) (fun c20 => ?_)
          · have h := sy_f c20 h
            refine lv_iconst (v := 0) hx hb dX12_words_54 (by decide) ?_
            refine lv_istore (lv' := [(6, .int 0), (0, .ref (sy_ad E 392)), (1, .int p0), (2, .int p1), (3, .int p2), (4, .int p3), (5, .int p4)]) hx hb dX12_words_55 hl (by decide) rfl (fun ls hl => ?_)
            refine lv_iconst (v := 1) hx hb dX12_words_57 (by decide) ?_
            refine lv_istore (lv' := [(7, .int 1), (6, .int 0), (0, .ref (sy_ad E 392)), (1, .int p0), (2, .int p1), (3, .int p2), (4, .int p3), (5, .int p4)]) hx hb dX12_words_58 hl (by decide) rfl (fun ls hl => ?_)
            refine lv_iload_n hx hb dX12_words_60 rfl (lv_at hl 5 rfl) ?_
            refine lv_iload hx hb dX12_words_61 (lv_at hl 6 rfl) ?_
            refine lv_icmp_ge (tgt := 70) hx hb dX12_words_63 (by decide) (fun c21 => ?_) (fun c21 => ?_)
            · have h := sy_t c21 h
              refine lv_iload hx hb dX12_words_70 (lv_at hl 6 rfl) ?_
              exact J_72 p0 p1 p2 p3 p4 0 1 p3 S17 _ _ _ X (lv_sub hl [3, 4, 5, 6, 7, 1, 0] rfl) h
            · have h := sy_f c21 h
              refine lv_iload_n hx hb dX12_words_66 rfl (lv_at hl 5 rfl) ?_
              refine lv_goto (tgt := 72) hx hb dX12_words_67 (by decide) ?_
              exact J_72 p0 p1 p2 p3 p4 0 1 p2 S17 _ _ _ X (lv_sub hl [3, 4, 5, 6, 7, 1, 0] rfl) h
          · have h := sy_t c20 h
            refine lv_ldc (v := (-1000000002)) hx hb hown (hts _ wm_208) dX12_words_51 ?_
            exact sy_iret fx X hr hlk h dX12_words_53
def m_Model_write_J82 (t0 : Int32) (t1 : Int32) (S : sy_St) : sy_R := sy_g (sy_in t0 60) <| sy_b (sy_up S 406 t0.toNatClampNeg t1) fun S16 => sy_b (sy_up S16 392 30 ((S16 392 30) + 1)) fun S17 => some (S17 392 30, S17)
def m_Model_write (p0 : Int32) (p1 : Int32) (p2 : Int32) (S : sy_St) : sy_R := sy_c (m_Model_isOne p0 S) fun r2 S1 => if r2 = 0 then (some ((-1000000001), S1)) else (sy_c (m_Model_in p1 0 2 S1) fun r6 S5 => if r6 = 0 then (some ((-1000000002), S5)) else (if (S5 392 30) = 20 then (some ((-1000000004), S5)) else (sy_g (sy_in (3 * (S5 392 30)) 60) <| sy_b (sy_up S5 406 ((3 * (S5 392 30)).toNatClampNeg) p0) fun S11 => sy_g (sy_in ((3 * (S11 392 30)) + 1) 60) <| sy_b (sy_up S11 406 (((3 * (S11 392 30)) + 1).toNatClampNeg) p1) fun S13 => if p2 = 0 then (m_Model_write_J82 ((3 * (S13 392 30)) + 2) 0 S13) else (m_Model_write_J82 ((3 * (S13 392 30)) + 2) 1 S13))))
theorem cv_Model_write : sy_cV RX12 yX12_write cX12_write 4 (some .int) 3 := ⟨wm_1024, wm_1025, wm_5, wm_1026, by decide +kernel⟩
set_option maxRecDepth 100000 in
set_option maxHeartbeats 40000000 in
theorem c_Model_write (l : Launch) {E : sy_ET} (ht : sy_OModel E) {p0 : Int32} {p1 : Int32} {p2 : Int32} {S S' : sy_St} {r : Int32} (h : m_Model_write p0 p1 p2 S = some (r, S')) : sy_MI l yX12_write cX12_write 4 (some .int) 2 43 [.ref (sy_ad E 392), .int p0, .int p1, .int p2] E S r S' := by
  refine sy_MI_of RX12 pn_12 rfl (Nat.le_of_ble_eq_true rfl) (fun p e s m args below meth c A ls fx hr hlk hA X hl => ?_)
  have hx := fx.1
  have hb := fx.2.1
  have hown := fx.2.2.2.1
  have hts := fx.2.2.2.2
  have hl : lv_has ls 4 [(0, .ref (sy_ad E 392)), (1, .int p0), (2, .int p1), (3, .int p2)] := hl
  have J_82 : ∀ (t0 t1 : Int32) (S : sy_St) (H : Heap) (locs : List Loc) (ls : Array Slot), sy_Wd E A s S H locs → lv_has ls 4 [(0, .ref (sy_ad E 392))] → m_Model_write_J82 t0 t1 S = some (r, S') → W p l e (sy_rm 2 43) s m args below meth c H locs 0 0 (MQ below (sy_Qi E A r S') args s 0 0 A) (F0 m 82 ls [.int t1, .int t0, .ref (sy_ad E 406)]) := by
    intro t0 t1 S H locs ls X hl h
    unfold m_Model_write_J82 at h
    obtain ⟨g15, h⟩ := sy_g_e h
    obtain ⟨S16, hS16, h⟩ := sy_b_e h
    refine sy_iast fx X (sy_OModel_a31 ht) g15 hS16 dX12_write_82 (fun H locs X => ?_)
    refine lv_aload_n hx hb dX12_write_83 rfl (lv_at hl 0 rfl) ?_
    refine lv_dup hx hb dX12_write_84 rfl ?_
    refine sy_g11 fx X (sy_OModel_o ht) 30 (by decide) wm_191 (fun _ h9 => h9) rfl dX12_write_85 ?_
    refine lv_iconst (v := 1) hx hb dX12_write_88 (by decide) ?_
    refine lv_iadd hx hb dX12_write_89 ?_
    obtain ⟨S17, hS17, h⟩ := sy_b_e h
    refine sy_p11 fx X (sy_OModel_o ht) 30 (by decide) wm_191 (fun _ h9 => h9) rfl (ty := .int) (by decide +kernel) rfl rfl hS17 sy_s11_30 dX12_write_90 (fun H locs X => ?_)
    refine lv_aload_n hx hb dX12_write_93 rfl (lv_at hl 0 rfl) ?_
    refine sy_g11 fx X (sy_OModel_o ht) 30 (by decide) wm_191 (fun _ h9 => h9) rfl dX12_write_94 ?_
    exact sy_iret fx X hr hlk h dX12_write_97
  unfold m_Model_write at h
  refine lv_aload_n hx hb dX12_write_0 rfl (lv_at hl 0 rfl) ?_
  refine lv_iload_n hx hb dX12_write_1 rfl (lv_at hl 1 rfl) ?_
  obtain ⟨r2, S1, hc3, h⟩ := sy_c_e h
  refine sy_vi (rest := []) fx hA X hl.1 (sy_OModel_o ht) (sy_en11 (sy_OModel_o ht).2) rfl (c_Model_isOne l ht hc3) cv_Model_isOne wm_458 ⟨Nat.le_of_ble_eq_true rfl, Nat.le_of_ble_eq_true rfl, Nat.le_refl _, Nat.le_refl _⟩ rfl rfl (Nat.le_of_ble_eq_true rfl) dX12_write_2 (fun H locs X => ?_)
  refine lv_if_ne (tgt := 11) hx hb dX12_write_5 (by decide) (fun c4 => ?_) (fun c4 => ?_)
  · have h := sy_f c4 h
    refine lv_iload_n hx hb dX12_write_11 rfl (lv_at hl 2 rfl) ?_
    refine lv_iconst (v := 0) hx hb dX12_write_12 (by decide) ?_
    refine lv_iconst (v := 2) hx hb dX12_write_13 (by decide) ?_
    obtain ⟨r6, S5, hc7, h⟩ := sy_c_e h
    refine sy_si (rest := []) fx hA X hl.1 (c_Model_in l hc7) cv_Model_in wm_211 ⟨Nat.le_of_ble_eq_true rfl, Nat.le_of_ble_eq_true rfl, Nat.le_refl _, Nat.le_refl _⟩ rfl rfl (Nat.le_of_ble_eq_true rfl) dX12_write_14 (fun H locs X => ?_)
    refine lv_if_ne (tgt := 23) hx hb dX12_write_17 (by decide) (fun c8 => ?_) (fun c8 => ?_)
    · have h := sy_f c8 h
      refine lv_aload_n hx hb dX12_write_23 rfl (lv_at hl 0 rfl) ?_
      refine sy_g11 fx X (sy_OModel_o ht) 30 (by decide) wm_191 (fun _ h9 => h9) rfl dX12_write_24 ?_
      refine lv_bipush (v := 20) hx hb dX12_write_27 (by decide) ?_
      refine lv_icmp_ne (tgt := 35) hx hb dX12_write_29 (by decide) (fun c9 => ?_) (fun c9 => ?_)
      · have h := sy_f c9 h
        refine lv_aload_n hx hb dX12_write_35 rfl (lv_at hl 0 rfl) ?_
        refine sy_q11 fx X (sy_OModel_o ht) 31 (by decide) wm_180 (fun _ h9 => h9) rfl (sy_OModel_r31 ht) dX12_write_36 ?_
        refine lv_iconst (v := 3) hx hb dX12_write_39 (by decide) ?_
        refine lv_aload_n hx hb dX12_write_40 rfl (lv_at hl 0 rfl) ?_
        refine sy_g11 fx X (sy_OModel_o ht) 30 (by decide) wm_191 (fun _ h9 => h9) rfl dX12_write_41 ?_
        refine lv_imul hx hb dX12_write_44 ?_
        refine lv_iload_n hx hb dX12_write_45 rfl (lv_at hl 1 rfl) ?_
        obtain ⟨g10, h⟩ := sy_g_e h
        obtain ⟨S11, hS11, h⟩ := sy_b_e h
        refine sy_iast fx X (sy_OModel_a31 ht) g10 hS11 dX12_write_46 (fun H locs X => ?_)
        refine lv_aload_n hx hb dX12_write_47 rfl (lv_at hl 0 rfl) ?_
        refine sy_q11 fx X (sy_OModel_o ht) 31 (by decide) wm_180 (fun _ h9 => h9) rfl (sy_OModel_r31 ht) dX12_write_48 ?_
        refine lv_iconst (v := 3) hx hb dX12_write_51 (by decide) ?_
        refine lv_aload_n hx hb dX12_write_52 rfl (lv_at hl 0 rfl) ?_
        refine sy_g11 fx X (sy_OModel_o ht) 30 (by decide) wm_191 (fun _ h9 => h9) rfl dX12_write_53 ?_
        refine lv_imul hx hb dX12_write_56 ?_
        refine lv_iconst (v := 1) hx hb dX12_write_57 (by decide) ?_
        refine lv_iadd hx hb dX12_write_58 ?_
        refine lv_iload_n hx hb dX12_write_59 rfl (lv_at hl 2 rfl) ?_
        obtain ⟨g12, h⟩ := sy_g_e h
        obtain ⟨S13, hS13, h⟩ := sy_b_e h
        refine sy_iast fx X (sy_OModel_a31 ht) g12 hS13 dX12_write_60 (fun H locs X => ?_)
        refine lv_aload_n hx hb dX12_write_61 rfl (lv_at hl 0 rfl) ?_
        refine sy_q11 fx X (sy_OModel_o ht) 31 (by decide) wm_180 (fun _ h9 => h9) rfl (sy_OModel_r31 ht) dX12_write_62 ?_
        refine lv_iconst (v := 3) hx hb dX12_write_65 (by decide) ?_
        refine lv_aload_n hx hb dX12_write_66 rfl (lv_at hl 0 rfl) ?_
        refine sy_g11 fx X (sy_OModel_o ht) 30 (by decide) wm_191 (fun _ h9 => h9) rfl dX12_write_67 ?_
        refine lv_imul hx hb dX12_write_70 ?_
        refine lv_iconst (v := 2) hx hb dX12_write_71 (by decide) ?_
        refine lv_iadd hx hb dX12_write_72 ?_
        refine lv_iload_n hx hb dX12_write_73 rfl (lv_at hl 3 rfl) ?_
        refine lv_if_eq (tgt := 81) hx hb dX12_write_74 (by decide) (fun c14 => ?_) (fun c14 => ?_)
        · have h := sy_t c14 h
          refine lv_iconst (v := 0) hx hb dX12_write_81 (by decide) ?_
          exact J_82 ((3 * (S13 392 30)) + 2) 0 S13 _ _ _ X (lv_sub hl [0] rfl) h
        · have h := sy_f c14 h
          refine lv_iconst (v := 1) hx hb dX12_write_77 (by decide) ?_
          refine lv_goto (tgt := 82) hx hb dX12_write_78 (by decide) ?_
          exact J_82 ((3 * (S13 392 30)) + 2) 1 S13 _ _ _ X (lv_sub hl [0] rfl) h
      · have h := sy_t c9 h
        refine lv_ldc (v := (-1000000004)) hx hb hown (hts _ wm_210) dX12_write_32 ?_
        exact sy_iret fx X hr hlk h dX12_write_34
    · have h := sy_t c8 h
      refine lv_ldc (v := (-1000000002)) hx hb hown (hts _ wm_208) dX12_write_20 ?_
      exact sy_iret fx X hr hlk h dX12_write_22
  · have h := sy_t c4 h
    refine lv_ldc (v := (-1000000001)) hx hb hown (hts _ wm_457) dX12_write_8 ?_
    exact sy_iret fx X hr hlk h dX12_write_10
