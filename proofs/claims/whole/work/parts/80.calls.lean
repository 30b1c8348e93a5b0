/-! ===== the law's calls, one by one ===== -/
section LAWC
variable {p : Program} {l : Launch} {e : Env} {s : State} {m : MethodId} {args : Array Value} {below : List Frame} {meth : Method} {c : Code} {H : Heap} {locs : List Loc} {cells slots : Nat} {Q : State → Prop}
variable {ls : Array Slot} {A : Nat → Prop} {E : sy_ET} {S : sy_St} {b L t : Nat} {xs : Nat → Int32}
set_option maxRecDepth 100000 in
set_option maxHeartbeats 40000000 in
theorem lw_0_feed (fx : CallFix p m c code 4 s args sy_W RL) (hA : ∀ q, s.heap.size ≤ q → A q) (hX : va_X b L xs s s.heap) (hbl : b < s.heap.size) (hbA : ¬ A b) (hT : sy_OTop E) (hM : sy_OModel E) (X : sy_Wd E A s S H locs) (hI : zi_Inv S (100 * t)) (ht : 6 * t + 6 ≤ L) (hL : L ≤ 384) (hl : lv_has ls 4 [(3, .int (nI (6 * t))), (2, .ref (sy_ad E 392)), (1, .ref (sy_ad E 0)), (0, .ref b)]) (hc : cells ≤ 1000) (hs : slots ≤ 100000)
    (kk : ∀ (S2 : sy_St) (H : Heap) (locs : List Loc), sy_Wd E A s S2 H locs → zi_Inv S2 (100 * t + 100) → W p l e room_1 s m args below meth c H locs cells slots Q (F0 m 971 ls [])) : W p l e room_1 s m args below meth c H locs cells slots Q (F0 m 172 ls []) := by
  have hx := fx.1
  have hb := fx.2.1
  have hcr : cells ≤ room_1.cells := Nat.le_trans hc (Nat.le_of_ble_eq_true rfl)
  have hsr : slots ≤ room_1.slots := Nat.le_trans hs (Nat.le_of_ble_eq_true rfl)
  obtain ⟨e0, wc, M, hall⟩ := hI
  obtain ⟨r, S1, hc1, r2, S2, hc2, hr2, hI2⟩ := zo_feed (xs (nI (6 * t + 1)).toNatClampNeg) S e0 wc M (100 * t) (by omega) hall
  subst hr2
  refine lv_aload_n hx hb dL_law_172 rfl (lv_at hl 2 rfl) ?_
  refine lv_aload_n hx hb dL_law_173 rfl (lv_at hl 3 rfl) ?_
  refine lv_iload_n hx hb dL_law_174 rfl (lv_at hl 0 rfl) ?_
  refine lv_iconst (v := 1) hx hb dL_law_175 (by decide) ?_
  refine lv_iadd hx hb dL_law_176 ?_
  refine sy_top (y := nI (6 * t + 1)) (by rw [show (1 : Int32) = nI 1 from rfl, nI_add]) ?_
  refine va_sld hx hb hX hbl hbA X.2.2.2 (i := nI (6 * t + 1)) (zz_in (by omega) (by omega)) dL_law_177 ?_
  refine sy_vi (rest := []) fx hA X hl.1 (sy_OTop_o hT) (sy_en10 (sy_OTop_o hT).2) rfl (c_Top_feed l hT hc1) cv_Top_feed wm_192 ⟨Nat.le_of_ble_eq_true rfl, Nat.le_of_ble_eq_true rfl, hcr, hsr⟩ rfl rfl (Nat.le_of_ble_eq_true rfl) dL_law_178 (fun H locs X => ?_)
  refine lv_aload_n hx hb dL_law_181 rfl (lv_at hl 1 rfl) ?_
  refine lv_aload_n hx hb dL_law_182 rfl (lv_at hl 3 rfl) ?_
  refine lv_iload_n hx hb dL_law_183 rfl (lv_at hl 0 rfl) ?_
  refine lv_iconst (v := 1) hx hb dL_law_184 (by decide) ?_
  refine lv_iadd hx hb dL_law_185 ?_
  refine sy_top (y := nI (6 * t + 1)) (by rw [show (1 : Int32) = nI 1 from rfl, nI_add]) ?_
  refine va_sld hx hb hX hbl hbA X.2.2.2 (i := nI (6 * t + 1)) (zz_in (by omega) (by omega)) dL_law_186 ?_
  refine sy_vi (rest := [.int r2]) fx hA X hl.1 (sy_OModel_o hM) (sy_en11 (sy_OModel_o hM).2) rfl (c_Model_feed l hM hc2) cv_Model_feed wm_204 ⟨Nat.le_of_ble_eq_true rfl, Nat.le_of_ble_eq_true rfl, hcr, hsr⟩ rfl rfl (Nat.le_of_ble_eq_true rfl) dL_law_187 (fun H locs X => ?_)
  refine lv_icmp_eq (tgt := 971) hx hb dL_law_190 (by decide) (fun _ => ?_) (fun q => absurd rfl q)
  exact kk S2 H locs X hI2
set_option maxRecDepth 100000 in
set_option maxHeartbeats 40000000 in
theorem lw_1_edge (fx : CallFix p m c code 4 s args sy_W RL) (hA : ∀ q, s.heap.size ≤ q → A q) (hX : va_X b L xs s s.heap) (hbl : b < s.heap.size) (hbA : ¬ A b) (hT : sy_OTop E) (hM : sy_OModel E) (X : sy_Wd E A s S H locs) (hI : zi_Inv S (100 * t)) (ht : 6 * t + 6 ≤ L) (hL : L ≤ 384) (hl : lv_has ls 4 [(3, .int (nI (6 * t))), (2, .ref (sy_ad E 392)), (1, .ref (sy_ad E 0)), (0, .ref b)]) (hc : cells ≤ 1000) (hs : slots ≤ 100000)
    (kk : ∀ (S2 : sy_St) (H : Heap) (locs : List Loc), sy_Wd E A s S2 H locs → zi_Inv S2 (100 * t + 100) → W p l e room_1 s m args below meth c H locs cells slots Q (F0 m 971 ls [])) : W p l e room_1 s m args below meth c H locs cells slots Q (F0 m 195 ls []) := by
  have hx := fx.1
  have hb := fx.2.1
  have hcr : cells ≤ room_1.cells := Nat.le_trans hc (Nat.le_of_ble_eq_true rfl)
  have hsr : slots ≤ room_1.slots := Nat.le_trans hs (Nat.le_of_ble_eq_true rfl)
  obtain ⟨e0, wc, M, hall⟩ := hI
  obtain ⟨r, S1, hc1, r2, S2, hc2, hr2, hI2⟩ := zo_edge S e0 wc M (100 * t) (by omega) hall
  subst hr2
  refine lv_aload_n hx hb dL_law_195 rfl (lv_at hl 2 rfl) ?_
  refine sy_vi (rest := []) fx hA X hl.1 (sy_OTop_o hT) (sy_en10 (sy_OTop_o hT).2) rfl (c_Top_edge l hT hc1) cv_Top_edge wm_214 ⟨Nat.le_of_ble_eq_true rfl, Nat.le_of_ble_eq_true rfl, hcr, hsr⟩ rfl rfl (Nat.le_of_ble_eq_true rfl) dL_law_196 (fun H locs X => ?_)
  refine lv_aload_n hx hb dL_law_199 rfl (lv_at hl 1 rfl) ?_
  refine sy_vi (rest := [.int r2]) fx hA X hl.1 (sy_OModel_o hM) (sy_en11 (sy_OModel_o hM).2) rfl (c_Model_edge l hM hc2) cv_Model_edge wm_324 ⟨Nat.le_of_ble_eq_true rfl, Nat.le_of_ble_eq_true rfl, hcr, hsr⟩ rfl rfl (Nat.le_of_ble_eq_true rfl) dL_law_200 (fun H locs X => ?_)
  refine lv_icmp_eq (tgt := 971) hx hb dL_law_203 (by decide) (fun _ => ?_) (fun q => absurd rfl q)
  exact kk S2 H locs X hI2
set_option maxRecDepth 100000 in
set_option maxHeartbeats 40000000 in
theorem lw_2_fault (fx : CallFix p m c code 4 s args sy_W RL) (hA : ∀ q, s.heap.size ≤ q → A q) (hX : va_X b L xs s s.heap) (hbl : b < s.heap.size) (hbA : ¬ A b) (hT : sy_OTop E) (hM : sy_OModel E) (X : sy_Wd E A s S H locs) (hI : zi_Inv S (100 * t)) (ht : 6 * t + 6 ≤ L) (hL : L ≤ 384) (hl : lv_has ls 4 [(3, .int (nI (6 * t))), (2, .ref (sy_ad E 392)), (1, .ref (sy_ad E 0)), (0, .ref b)]) (hc : cells ≤ 1000) (hs : slots ≤ 100000)
    (kk : ∀ (S2 : sy_St) (H : Heap) (locs : List Loc), sy_Wd E A s S2 H locs → zi_Inv S2 (100 * t + 100) → W p l e room_1 s m args below meth c H locs cells slots Q (F0 m 971 ls [])) : W p l e room_1 s m args below meth c H locs cells slots Q (F0 m 208 ls []) := by
  have hx := fx.1
  have hb := fx.2.1
  have hcr : cells ≤ room_1.cells := Nat.le_trans hc (Nat.le_of_ble_eq_true rfl)
  have hsr : slots ≤ room_1.slots := Nat.le_trans hs (Nat.le_of_ble_eq_true rfl)
  obtain ⟨e0, wc, M, hall⟩ := hI
  obtain ⟨r, S1, hc1, r2, S2, hc2, hr2, hI2⟩ := zo_fault S e0 wc M (100 * t) (by omega) hall
  subst hr2
  refine lv_aload_n hx hb dL_law_208 rfl (lv_at hl 2 rfl) ?_
  refine sy_vi (rest := []) fx hA X hl.1 (sy_OTop_o hT) (sy_en10 (sy_OTop_o hT).2) rfl (c_Top_fault l hT hc1) cv_Top_fault wm_376 ⟨Nat.le_of_ble_eq_true rfl, Nat.le_of_ble_eq_true rfl, hcr, hsr⟩ rfl rfl (Nat.le_of_ble_eq_true rfl) dL_law_209 (fun H locs X => ?_)
  refine lv_aload_n hx hb dL_law_212 rfl (lv_at hl 1 rfl) ?_
  refine sy_vi (rest := [.int r2]) fx hA X hl.1 (sy_OModel_o hM) (sy_en11 (sy_OModel_o hM).2) rfl (c_Model_fault l hM hc2) cv_Model_fault wm_380 ⟨Nat.le_of_ble_eq_true rfl, Nat.le_of_ble_eq_true rfl, hcr, hsr⟩ rfl rfl (Nat.le_of_ble_eq_true rfl) dL_law_213 (fun H locs X => ?_)
  refine lv_icmp_eq (tgt := 971) hx hb dL_law_216 (by decide) (fun _ => ?_) (fun q => absurd rfl q)
  exact kk S2 H locs X hI2
set_option maxRecDepth 100000 in
set_option maxHeartbeats 40000000 in
theorem lw_3_told (fx : CallFix p m c code 4 s args sy_W RL) (hA : ∀ q, s.heap.size ≤ q → A q) (hX : va_X b L xs s s.heap) (hbl : b < s.heap.size) (hbA : ¬ A b) (hT : sy_OTop E) (hM : sy_OModel E) (X : sy_Wd E A s S H locs) (hI : zi_Inv S (100 * t)) (ht : 6 * t + 6 ≤ L) (hL : L ≤ 384) (hl : lv_has ls 4 [(3, .int (nI (6 * t))), (2, .ref (sy_ad E 392)), (1, .ref (sy_ad E 0)), (0, .ref b)]) (hc : cells ≤ 1000) (hs : slots ≤ 100000)
    (kk : ∀ (S2 : sy_St) (H : Heap) (locs : List Loc), sy_Wd E A s S2 H locs → zi_Inv S2 (100 * t + 100) → W p l e room_1 s m args below meth c H locs cells slots Q (F0 m 971 ls [])) : W p l e room_1 s m args below meth c H locs cells slots Q (F0 m 221 ls []) := by
  have hx := fx.1
  have hb := fx.2.1
  have hcr : cells ≤ room_1.cells := Nat.le_trans hc (Nat.le_of_ble_eq_true rfl)
  have hsr : slots ≤ room_1.slots := Nat.le_trans hs (Nat.le_of_ble_eq_true rfl)
  obtain ⟨e0, wc, M, hall⟩ := hI
  obtain ⟨r, S1, hc1, r2, S2, hc2, hr2, hI2⟩ := zo_told (xs (nI (6 * t + 1)).toNatClampNeg) S e0 wc M (100 * t) (by omega) hall
  subst hr2
  refine lv_aload_n hx hb dL_law_221 rfl (lv_at hl 2 rfl) ?_
  refine lv_aload_n hx hb dL_law_222 rfl (lv_at hl 3 rfl) ?_
  refine lv_iload_n hx hb dL_law_223 rfl (lv_at hl 0 rfl) ?_
  refine lv_iconst (v := 1) hx hb dL_law_224 (by decide) ?_
  refine lv_iadd hx hb dL_law_225 ?_
  refine sy_top (y := nI (6 * t + 1)) (by rw [show (1 : Int32) = nI 1 from rfl, nI_add]) ?_
  refine va_sld hx hb hX hbl hbA X.2.2.2 (i := nI (6 * t + 1)) (zz_in (by omega) (by omega)) dL_law_226 ?_
  refine sy_vi (rest := []) fx hA X hl.1 (sy_OTop_o hT) (sy_en10 (sy_OTop_o hT).2) rfl (c_Top_told l hT hc1) cv_Top_told wm_384 ⟨Nat.le_of_ble_eq_true rfl, Nat.le_of_ble_eq_true rfl, hcr, hsr⟩ rfl rfl (Nat.le_of_ble_eq_true rfl) dL_law_227 (fun H locs X => ?_)
  refine lv_aload_n hx hb dL_law_230 rfl (lv_at hl 1 rfl) ?_
  refine lv_aload_n hx hb dL_law_231 rfl (lv_at hl 3 rfl) ?_
  refine lv_iload_n hx hb dL_law_232 rfl (lv_at hl 0 rfl) ?_
  refine lv_iconst (v := 1) hx hb dL_law_233 (by decide) ?_
  refine lv_iadd hx hb dL_law_234 ?_
  refine sy_top (y := nI (6 * t + 1)) (by rw [show (1 : Int32) = nI 1 from rfl, nI_add]) ?_
  refine va_sld hx hb hX hbl hbA X.2.2.2 (i := nI (6 * t + 1)) (zz_in (by omega) (by omega)) dL_law_235 ?_
  refine sy_vi (rest := [.int r2]) fx hA X hl.1 (sy_OModel_o hM) (sy_en11 (sy_OModel_o hM).2) rfl (c_Model_told l hM hc2) cv_Model_told wm_417 ⟨Nat.le_of_ble_eq_true rfl, Nat.le_of_ble_eq_true rfl, hcr, hsr⟩ rfl rfl (Nat.le_of_ble_eq_true rfl) dL_law_236 (fun H locs X => ?_)
  refine lv_icmp_eq (tgt := 971) hx hb dL_law_239 (by decide) (fun _ => ?_) (fun q => absurd rfl q)
  exact kk S2 H locs X hI2
set_option maxRecDepth 100000 in
set_option maxHeartbeats 40000000 in
theorem lw_4_person (fx : CallFix p m c code 4 s args sy_W RL) (hA : ∀ q, s.heap.size ≤ q → A q) (hX : va_X b L xs s s.heap) (hbl : b < s.heap.size) (hbA : ¬ A b) (hT : sy_OTop E) (hM : sy_OModel E) (X : sy_Wd E A s S H locs) (hI : zi_Inv S (100 * t)) (ht : 6 * t + 6 ≤ L) (hL : L ≤ 384) (hl : lv_has ls 4 [(3, .int (nI (6 * t))), (2, .ref (sy_ad E 392)), (1, .ref (sy_ad E 0)), (0, .ref b)]) (hc : cells ≤ 1000) (hs : slots ≤ 100000)
    (kk : ∀ (S2 : sy_St) (H : Heap) (locs : List Loc), sy_Wd E A s S2 H locs → zi_Inv S2 (100 * t + 100) → W p l e room_1 s m args below meth c H locs cells slots Q (F0 m 971 ls [])) : W p l e room_1 s m args below meth c H locs cells slots Q (F0 m 244 ls []) := by
  have hx := fx.1
  have hb := fx.2.1
  have hcr : cells ≤ room_1.cells := Nat.le_trans hc (Nat.le_of_ble_eq_true rfl)
  have hsr : slots ≤ room_1.slots := Nat.le_trans hs (Nat.le_of_ble_eq_true rfl)
  obtain ⟨e0, wc, M, hall⟩ := hI
  obtain ⟨r, S1, hc1, r2, S2, hc2, hr2, hI2⟩ := zo_person_ (xs (nI (6 * t + 1)).toNatClampNeg) (xs (nI (6 * t + 2)).toNatClampNeg) S e0 wc M (100 * t) (by omega) hall
  subst hr2
  refine lv_aload_n hx hb dL_law_244 rfl (lv_at hl 2 rfl) ?_
  refine lv_aload_n hx hb dL_law_245 rfl (lv_at hl 3 rfl) ?_
  refine lv_iload_n hx hb dL_law_246 rfl (lv_at hl 0 rfl) ?_
  refine lv_iconst (v := 1) hx hb dL_law_247 (by decide) ?_
  refine lv_iadd hx hb dL_law_248 ?_
  refine sy_top (y := nI (6 * t + 1)) (by rw [show (1 : Int32) = nI 1 from rfl, nI_add]) ?_
  refine va_sld hx hb hX hbl hbA X.2.2.2 (i := nI (6 * t + 1)) (zz_in (by omega) (by omega)) dL_law_249 ?_
  refine lv_aload_n hx hb dL_law_250 rfl (lv_at hl 3 rfl) ?_
  refine lv_iload_n hx hb dL_law_251 rfl (lv_at hl 0 rfl) ?_
  refine lv_iconst (v := 2) hx hb dL_law_252 (by decide) ?_
  refine lv_iadd hx hb dL_law_253 ?_
  refine sy_top (y := nI (6 * t + 2)) (by rw [show (2 : Int32) = nI 2 from rfl, nI_add]) ?_
  refine va_sld hx hb hX hbl hbA X.2.2.2 (i := nI (6 * t + 2)) (zz_in (by omega) (by omega)) dL_law_254 ?_
  refine sy_vi (rest := []) fx hA X hl.1 (sy_OTop_o hT) (sy_en10 (sy_OTop_o hT).2) rfl (c_Top_person l hT hc1) cv_Top_person wm_437 ⟨Nat.le_of_ble_eq_true rfl, Nat.le_of_ble_eq_true rfl, hcr, hsr⟩ rfl rfl (Nat.le_of_ble_eq_true rfl) dL_law_255 (fun H locs X => ?_)
  refine lv_aload_n hx hb dL_law_258 rfl (lv_at hl 1 rfl) ?_
  refine lv_aload_n hx hb dL_law_259 rfl (lv_at hl 3 rfl) ?_
  refine lv_iload_n hx hb dL_law_260 rfl (lv_at hl 0 rfl) ?_
  refine lv_iconst (v := 1) hx hb dL_law_261 (by decide) ?_
  refine lv_iadd hx hb dL_law_262 ?_
  refine sy_top (y := nI (6 * t + 1)) (by rw [show (1 : Int32) = nI 1 from rfl, nI_add]) ?_
  refine va_sld hx hb hX hbl hbA X.2.2.2 (i := nI (6 * t + 1)) (zz_in (by omega) (by omega)) dL_law_263 ?_
  refine lv_aload_n hx hb dL_law_264 rfl (lv_at hl 3 rfl) ?_
  refine lv_iload_n hx hb dL_law_265 rfl (lv_at hl 0 rfl) ?_
  refine lv_iconst (v := 2) hx hb dL_law_266 (by decide) ?_
  refine lv_iadd hx hb dL_law_267 ?_
  refine sy_top (y := nI (6 * t + 2)) (by rw [show (2 : Int32) = nI 2 from rfl, nI_add]) ?_
  refine va_sld hx hb hX hbl hbA X.2.2.2 (i := nI (6 * t + 2)) (zz_in (by omega) (by omega)) dL_law_268 ?_
  refine sy_vi (rest := [.int r2]) fx hA X hl.1 (sy_OModel_o hM) (sy_en11 (sy_OModel_o hM).2) rfl (c_Model_person l hM hc2) cv_Model_person wm_453 ⟨Nat.le_of_ble_eq_true rfl, Nat.le_of_ble_eq_true rfl, hcr, hsr⟩ rfl rfl (Nat.le_of_ble_eq_true rfl) dL_law_269 (fun H locs X => ?_)
  refine lv_icmp_eq (tgt := 971) hx hb dL_law_272 (by decide) (fun _ => ?_) (fun q => absurd rfl q)
  exact kk S2 H locs X hI2
set_option maxRecDepth 100000 in
set_option maxHeartbeats 40000000 in
theorem lw_5_word (fx : CallFix p m c code 4 s args sy_W RL) (hA : ∀ q, s.heap.size ≤ q → A q) (hX : va_X b L xs s s.heap) (hbl : b < s.heap.size) (hbA : ¬ A b) (hT : sy_OTop E) (hM : sy_OModel E) (X : sy_Wd E A s S H locs) (hI : zi_Inv S (100 * t)) (ht : 6 * t + 6 ≤ L) (hL : L ≤ 384) (hl : lv_has ls 4 [(3, .int (nI (6 * t))), (2, .ref (sy_ad E 392)), (1, .ref (sy_ad E 0)), (0, .ref b)]) (hc : cells ≤ 1000) (hs : slots ≤ 100000)
    (kk : ∀ (S2 : sy_St) (H : Heap) (locs : List Loc), sy_Wd E A s S2 H locs → zi_Inv S2 (100 * t + 100) → W p l e room_1 s m args below meth c H locs cells slots Q (F0 m 971 ls [])) : W p l e room_1 s m args below meth c H locs cells slots Q (F0 m 277 ls []) := by
  have hx := fx.1
  have hb := fx.2.1
  have hcr : cells ≤ room_1.cells := Nat.le_trans hc (Nat.le_of_ble_eq_true rfl)
  have hsr : slots ≤ room_1.slots := Nat.le_trans hs (Nat.le_of_ble_eq_true rfl)
  obtain ⟨e0, wc, M, hall⟩ := hI
  obtain ⟨r, S1, hc1, r2, S2, hc2, hr2, hI2⟩ := zo_word (xs (nI (6 * t + 1)).toNatClampNeg) S e0 wc M (100 * t) (by omega) hall
  subst hr2
  refine lv_aload_n hx hb dL_law_277 rfl (lv_at hl 2 rfl) ?_
  refine lv_aload_n hx hb dL_law_278 rfl (lv_at hl 3 rfl) ?_
  refine lv_iload_n hx hb dL_law_279 rfl (lv_at hl 0 rfl) ?_
  refine lv_iconst (v := 1) hx hb dL_law_280 (by decide) ?_
  refine lv_iadd hx hb dL_law_281 ?_
  refine sy_top (y := nI (6 * t + 1)) (by rw [show (1 : Int32) = nI 1 from rfl, nI_add]) ?_
  refine va_sld hx hb hX hbl hbA X.2.2.2 (i := nI (6 * t + 1)) (zz_in (by omega) (by omega)) dL_law_282 ?_
  refine sy_vi (rest := []) fx hA X hl.1 (sy_OTop_o hT) (sy_en10 (sy_OTop_o hT).2) rfl (c_Top_word l hT hc1) cv_Top_word wm_462 ⟨Nat.le_of_ble_eq_true rfl, Nat.le_of_ble_eq_true rfl, hcr, hsr⟩ rfl rfl (Nat.le_of_ble_eq_true rfl) dL_law_283 (fun H locs X => ?_)
  refine lv_aload_n hx hb dL_law_286 rfl (lv_at hl 1 rfl) ?_
  refine lv_aload_n hx hb dL_law_287 rfl (lv_at hl 3 rfl) ?_
  refine lv_iload_n hx hb dL_law_288 rfl (lv_at hl 0 rfl) ?_
  refine lv_iconst (v := 1) hx hb dL_law_289 (by decide) ?_
  refine lv_iadd hx hb dL_law_290 ?_
  refine sy_top (y := nI (6 * t + 1)) (by rw [show (1 : Int32) = nI 1 from rfl, nI_add]) ?_
  refine va_sld hx hb hX hbl hbA X.2.2.2 (i := nI (6 * t + 1)) (zz_in (by omega) (by omega)) dL_law_291 ?_
  refine sy_vi (rest := [.int r2]) fx hA X hl.1 (sy_OModel_o hM) (sy_en11 (sy_OModel_o hM).2) rfl (c_Model_word l hM hc2) cv_Model_word wm_470 ⟨Nat.le_of_ble_eq_true rfl, Nat.le_of_ble_eq_true rfl, hcr, hsr⟩ rfl rfl (Nat.le_of_ble_eq_true rfl) dL_law_292 (fun H locs X => ?_)
  refine lv_icmp_eq (tgt := 971) hx hb dL_law_295 (by decide) (fun _ => ?_) (fun q => absurd rfl q)
  exact kk S2 H locs X hI2
set_option maxRecDepth 100000 in
set_option maxHeartbeats 40000000 in
theorem lw_6_hour (fx : CallFix p m c code 4 s args sy_W RL) (hA : ∀ q, s.heap.size ≤ q → A q) (hX : va_X b L xs s s.heap) (hbl : b < s.heap.size) (hbA : ¬ A b) (hT : sy_OTop E) (hM : sy_OModel E) (X : sy_Wd E A s S H locs) (hI : zi_Inv S (100 * t)) (ht : 6 * t + 6 ≤ L) (hL : L ≤ 384) (hl : lv_has ls 4 [(3, .int (nI (6 * t))), (2, .ref (sy_ad E 392)), (1, .ref (sy_ad E 0)), (0, .ref b)]) (hc : cells ≤ 1000) (hs : slots ≤ 100000)
    (kk : ∀ (S2 : sy_St) (H : Heap) (locs : List Loc), sy_Wd E A s S2 H locs → zi_Inv S2 (100 * t + 100) → W p l e room_1 s m args below meth c H locs cells slots Q (F0 m 971 ls [])) : W p l e room_1 s m args below meth c H locs cells slots Q (F0 m 300 ls []) := by
  have hx := fx.1
  have hb := fx.2.1
  have hcr : cells ≤ room_1.cells := Nat.le_trans hc (Nat.le_of_ble_eq_true rfl)
  have hsr : slots ≤ room_1.slots := Nat.le_trans hs (Nat.le_of_ble_eq_true rfl)
  obtain ⟨e0, wc, M, hall⟩ := hI
  obtain ⟨r, S1, hc1, r2, S2, hc2, hr2, hI2⟩ := zo_hour (xs (nI (6 * t + 1)).toNatClampNeg) S e0 wc M (100 * t) (by omega) hall
  subst hr2
  refine lv_aload_n hx hb dL_law_300 rfl (lv_at hl 2 rfl) ?_
  refine lv_aload_n hx hb dL_law_301 rfl (lv_at hl 3 rfl) ?_
  refine lv_iload_n hx hb dL_law_302 rfl (lv_at hl 0 rfl) ?_
  refine lv_iconst (v := 1) hx hb dL_law_303 (by decide) ?_
  refine lv_iadd hx hb dL_law_304 ?_
  refine sy_top (y := nI (6 * t + 1)) (by rw [show (1 : Int32) = nI 1 from rfl, nI_add]) ?_
  refine va_sld hx hb hX hbl hbA X.2.2.2 (i := nI (6 * t + 1)) (zz_in (by omega) (by omega)) dL_law_305 ?_
  refine sy_vi (rest := []) fx hA X hl.1 (sy_OTop_o hT) (sy_en10 (sy_OTop_o hT).2) rfl (c_Top_hour l hT hc1) cv_Top_hour wm_474 ⟨Nat.le_of_ble_eq_true rfl, Nat.le_of_ble_eq_true rfl, hcr, hsr⟩ rfl rfl (Nat.le_of_ble_eq_true rfl) dL_law_306 (fun H locs X => ?_)
  refine lv_aload_n hx hb dL_law_309 rfl (lv_at hl 1 rfl) ?_
  refine lv_aload_n hx hb dL_law_310 rfl (lv_at hl 3 rfl) ?_
  refine lv_iload_n hx hb dL_law_311 rfl (lv_at hl 0 rfl) ?_
  refine lv_iconst (v := 1) hx hb dL_law_312 (by decide) ?_
  refine lv_iadd hx hb dL_law_313 ?_
  refine sy_top (y := nI (6 * t + 1)) (by rw [show (1 : Int32) = nI 1 from rfl, nI_add]) ?_
  refine va_sld hx hb hX hbl hbA X.2.2.2 (i := nI (6 * t + 1)) (zz_in (by omega) (by omega)) dL_law_314 ?_
  refine sy_vi (rest := [.int r2]) fx hA X hl.1 (sy_OModel_o hM) (sy_en11 (sy_OModel_o hM).2) rfl (c_Model_hour l hM hc2) cv_Model_hour wm_526 ⟨Nat.le_of_ble_eq_true rfl, Nat.le_of_ble_eq_true rfl, hcr, hsr⟩ rfl rfl (Nat.le_of_ble_eq_true rfl) dL_law_315 (fun H locs X => ?_)
  refine lv_icmp_eq (tgt := 971) hx hb dL_law_318 (by decide) (fun _ => ?_) (fun q => absurd rfl q)
  exact kk S2 H locs X hI2
set_option maxRecDepth 100000 in
set_option maxHeartbeats 40000000 in
theorem lw_7_offer (fx : CallFix p m c code 4 s args sy_W RL) (hA : ∀ q, s.heap.size ≤ q → A q) (hX : va_X b L xs s s.heap) (hbl : b < s.heap.size) (hbA : ¬ A b) (hT : sy_OTop E) (hM : sy_OModel E) (X : sy_Wd E A s S H locs) (hI : zi_Inv S (100 * t)) (ht : 6 * t + 6 ≤ L) (hL : L ≤ 384) (hl : lv_has ls 4 [(3, .int (nI (6 * t))), (2, .ref (sy_ad E 392)), (1, .ref (sy_ad E 0)), (0, .ref b)]) (hc : cells ≤ 1000) (hs : slots ≤ 100000)
    (kk : ∀ (S2 : sy_St) (H : Heap) (locs : List Loc), sy_Wd E A s S2 H locs → zi_Inv S2 (100 * t + 100) → W p l e room_1 s m args below meth c H locs cells slots Q (F0 m 971 ls [])) : W p l e room_1 s m args below meth c H locs cells slots Q (F0 m 323 ls []) := by
  have hx := fx.1
  have hb := fx.2.1
  have hcr : cells ≤ room_1.cells := Nat.le_trans hc (Nat.le_of_ble_eq_true rfl)
  have hsr : slots ≤ room_1.slots := Nat.le_trans hs (Nat.le_of_ble_eq_true rfl)
  obtain ⟨e0, wc, M, hall⟩ := hI
  obtain ⟨r, S1, hc1, r2, S2, hc2, hr2, hI2⟩ := zo_offer (xs (nI (6 * t + 1)).toNatClampNeg) (xs (nI (6 * t + 2)).toNatClampNeg) S e0 wc M (100 * t) (by omega) hall
  subst hr2
  refine lv_aload_n hx hb dL_law_323 rfl (lv_at hl 2 rfl) ?_
  refine lv_aload_n hx hb dL_law_324 rfl (lv_at hl 3 rfl) ?_
  refine lv_iload_n hx hb dL_law_325 rfl (lv_at hl 0 rfl) ?_
  refine lv_iconst (v := 1) hx hb dL_law_326 (by decide) ?_
  refine lv_iadd hx hb dL_law_327 ?_
  refine sy_top (y := nI (6 * t + 1)) (by rw [show (1 : Int32) = nI 1 from rfl, nI_add]) ?_
  refine va_sld hx hb hX hbl hbA X.2.2.2 (i := nI (6 * t + 1)) (zz_in (by omega) (by omega)) dL_law_328 ?_
  refine lv_aload_n hx hb dL_law_329 rfl (lv_at hl 3 rfl) ?_
  refine lv_iload_n hx hb dL_law_330 rfl (lv_at hl 0 rfl) ?_
  refine lv_iconst (v := 2) hx hb dL_law_331 (by decide) ?_
  refine lv_iadd hx hb dL_law_332 ?_
  refine sy_top (y := nI (6 * t + 2)) (by rw [show (2 : Int32) = nI 2 from rfl, nI_add]) ?_
  refine va_sld hx hb hX hbl hbA X.2.2.2 (i := nI (6 * t + 2)) (zz_in (by omega) (by omega)) dL_law_333 ?_
  refine sy_vi (rest := []) fx hA X hl.1 (sy_OTop_o hT) (sy_en10 (sy_OTop_o hT).2) rfl (c_Top_offer l hT hc1) cv_Top_offer wm_547 ⟨Nat.le_of_ble_eq_true rfl, Nat.le_of_ble_eq_true rfl, hcr, hsr⟩ rfl rfl (Nat.le_of_ble_eq_true rfl) dL_law_334 (fun H locs X => ?_)
  refine lv_aload_n hx hb dL_law_337 rfl (lv_at hl 1 rfl) ?_
  refine lv_aload_n hx hb dL_law_338 rfl (lv_at hl 3 rfl) ?_
  refine lv_iload_n hx hb dL_law_339 rfl (lv_at hl 0 rfl) ?_
  refine lv_iconst (v := 1) hx hb dL_law_340 (by decide) ?_
  refine lv_iadd hx hb dL_law_341 ?_
  refine sy_top (y := nI (6 * t + 1)) (by rw [show (1 : Int32) = nI 1 from rfl, nI_add]) ?_
  refine va_sld hx hb hX hbl hbA X.2.2.2 (i := nI (6 * t + 1)) (zz_in (by omega) (by omega)) dL_law_342 ?_
  refine lv_aload_n hx hb dL_law_343 rfl (lv_at hl 3 rfl) ?_
  refine lv_iload_n hx hb dL_law_344 rfl (lv_at hl 0 rfl) ?_
  refine lv_iconst (v := 2) hx hb dL_law_345 (by decide) ?_
  refine lv_iadd hx hb dL_law_346 ?_
  refine sy_top (y := nI (6 * t + 2)) (by rw [show (2 : Int32) = nI 2 from rfl, nI_add]) ?_
  refine va_sld hx hb hX hbl hbA X.2.2.2 (i := nI (6 * t + 2)) (zz_in (by omega) (by omega)) dL_law_347 ?_
  refine sy_vi (rest := [.int r2]) fx hA X hl.1 (sy_OModel_o hM) (sy_en11 (sy_OModel_o hM).2) rfl (c_Model_offer l hM hc2) cv_Model_offer wm_566 ⟨Nat.le_of_ble_eq_true rfl, Nat.le_of_ble_eq_true rfl, hcr, hsr⟩ rfl rfl (Nat.le_of_ble_eq_true rfl) dL_law_348 (fun H locs X => ?_)
  refine lv_icmp_eq (tgt := 971) hx hb dL_law_351 (by decide) (fun _ => ?_) (fun q => absurd rfl q)
  exact kk S2 H locs X hI2
set_option maxRecDepth 100000 in
set_option maxHeartbeats 40000000 in
theorem lw_8_take (fx : CallFix p m c code 4 s args sy_W RL) (hA : ∀ q, s.heap.size ≤ q → A q) (hX : va_X b L xs s s.heap) (hbl : b < s.heap.size) (hbA : ¬ A b) (hT : sy_OTop E) (hM : sy_OModel E) (X : sy_Wd E A s S H locs) (hI : zi_Inv S (100 * t)) (ht : 6 * t + 6 ≤ L) (hL : L ≤ 384) (hl : lv_has ls 4 [(3, .int (nI (6 * t))), (2, .ref (sy_ad E 392)), (1, .ref (sy_ad E 0)), (0, .ref b)]) (hc : cells ≤ 1000) (hs : slots ≤ 100000)
    (kk : ∀ (S2 : sy_St) (H : Heap) (locs : List Loc), sy_Wd E A s S2 H locs → zi_Inv S2 (100 * t + 100) → W p l e room_1 s m args below meth c H locs cells slots Q (F0 m 971 ls [])) : W p l e room_1 s m args below meth c H locs cells slots Q (F0 m 356 ls []) := by
  have hx := fx.1
  have hb := fx.2.1
  have hcr : cells ≤ room_1.cells := Nat.le_trans hc (Nat.le_of_ble_eq_true rfl)
  have hsr : slots ≤ room_1.slots := Nat.le_trans hs (Nat.le_of_ble_eq_true rfl)
  obtain ⟨e0, wc, M, hall⟩ := hI
  obtain ⟨r, S1, hc1, r2, S2, hc2, hr2, hI2⟩ := zo_take (xs (nI (6 * t + 1)).toNatClampNeg) S e0 wc M (100 * t) (by omega) hall
  subst hr2
  refine lv_aload_n hx hb dL_law_356 rfl (lv_at hl 2 rfl) ?_
  refine lv_aload_n hx hb dL_law_357 rfl (lv_at hl 3 rfl) ?_
  refine lv_iload_n hx hb dL_law_358 rfl (lv_at hl 0 rfl) ?_
  refine lv_iconst (v := 1) hx hb dL_law_359 (by decide) ?_
  refine lv_iadd hx hb dL_law_360 ?_
  refine sy_top (y := nI (6 * t + 1)) (by rw [show (1 : Int32) = nI 1 from rfl, nI_add]) ?_
  refine va_sld hx hb hX hbl hbA X.2.2.2 (i := nI (6 * t + 1)) (zz_in (by omega) (by omega)) dL_law_361 ?_
  refine sy_vi (rest := []) fx hA X hl.1 (sy_OTop_o hT) (sy_en10 (sy_OTop_o hT).2) rfl (c_Top_take l hT hc1) cv_Top_take wm_584 ⟨Nat.le_of_ble_eq_true rfl, Nat.le_of_ble_eq_true rfl, hcr, hsr⟩ rfl rfl (Nat.le_of_ble_eq_true rfl) dL_law_362 (fun H locs X => ?_)
  refine lv_aload_n hx hb dL_law_365 rfl (lv_at hl 1 rfl) ?_
  refine lv_aload_n hx hb dL_law_366 rfl (lv_at hl 3 rfl) ?_
  refine lv_iload_n hx hb dL_law_367 rfl (lv_at hl 0 rfl) ?_
  refine lv_iconst (v := 1) hx hb dL_law_368 (by decide) ?_
  refine lv_iadd hx hb dL_law_369 ?_
  refine sy_top (y := nI (6 * t + 1)) (by rw [show (1 : Int32) = nI 1 from rfl, nI_add]) ?_
  refine va_sld hx hb hX hbl hbA X.2.2.2 (i := nI (6 * t + 1)) (zz_in (by omega) (by omega)) dL_law_370 ?_
  refine sy_vi (rest := [.int r2]) fx hA X hl.1 (sy_OModel_o hM) (sy_en11 (sy_OModel_o hM).2) rfl (c_Model_take l hM hc2) cv_Model_take wm_598 ⟨Nat.le_of_ble_eq_true rfl, Nat.le_of_ble_eq_true rfl, hcr, hsr⟩ rfl rfl (Nat.le_of_ble_eq_true rfl) dL_law_371 (fun H locs X => ?_)
  refine lv_icmp_eq (tgt := 971) hx hb dL_law_374 (by decide) (fun _ => ?_) (fun q => absurd rfl q)
  exact kk S2 H locs X hI2
set_option maxRecDepth 100000 in
set_option maxHeartbeats 40000000 in
theorem lw_9_join (fx : CallFix p m c code 4 s args sy_W RL) (hA : ∀ q, s.heap.size ≤ q → A q) (hX : va_X b L xs s s.heap) (hbl : b < s.heap.size) (hbA : ¬ A b) (hT : sy_OTop E) (hM : sy_OModel E) (X : sy_Wd E A s S H locs) (hI : zi_Inv S (100 * t)) (ht : 6 * t + 6 ≤ L) (hL : L ≤ 384) (hl : lv_has ls 4 [(3, .int (nI (6 * t))), (2, .ref (sy_ad E 392)), (1, .ref (sy_ad E 0)), (0, .ref b)]) (hc : cells ≤ 1000) (hs : slots ≤ 100000)
    (kk : ∀ (S2 : sy_St) (H : Heap) (locs : List Loc), sy_Wd E A s S2 H locs → zi_Inv S2 (100 * t + 100) → W p l e room_1 s m args below meth c H locs cells slots Q (F0 m 971 ls [])) : W p l e room_1 s m args below meth c H locs cells slots Q (F0 m 379 ls []) := by
  have hx := fx.1
  have hb := fx.2.1
  have hcr : cells ≤ room_1.cells := Nat.le_trans hc (Nat.le_of_ble_eq_true rfl)
  have hsr : slots ≤ room_1.slots := Nat.le_trans hs (Nat.le_of_ble_eq_true rfl)
  obtain ⟨e0, wc, M, hall⟩ := hI
  obtain ⟨r, S1, hc1, r2, S2, hc2, hr2, hI2⟩ := zo_join (xs (nI (6 * t + 1)).toNatClampNeg) S e0 wc M (100 * t) (by omega) hall
  subst hr2
  refine lv_aload_n hx hb dL_law_379 rfl (lv_at hl 2 rfl) ?_
  refine lv_aload_n hx hb dL_law_380 rfl (lv_at hl 3 rfl) ?_
  refine lv_iload_n hx hb dL_law_381 rfl (lv_at hl 0 rfl) ?_
  refine lv_iconst (v := 1) hx hb dL_law_382 (by decide) ?_
  refine lv_iadd hx hb dL_law_383 ?_
  refine sy_top (y := nI (6 * t + 1)) (by rw [show (1 : Int32) = nI 1 from rfl, nI_add]) ?_
  refine va_sld hx hb hX hbl hbA X.2.2.2 (i := nI (6 * t + 1)) (zz_in (by omega) (by omega)) dL_law_384 ?_
  refine sy_vi (rest := []) fx hA X hl.1 (sy_OTop_o hT) (sy_en10 (sy_OTop_o hT).2) rfl (c_Top_join l hT hc1) cv_Top_join wm_614 ⟨Nat.le_of_ble_eq_true rfl, Nat.le_of_ble_eq_true rfl, hcr, hsr⟩ rfl rfl (Nat.le_of_ble_eq_true rfl) dL_law_385 (fun H locs X => ?_)
  refine lv_aload_n hx hb dL_law_388 rfl (lv_at hl 1 rfl) ?_
  refine lv_aload_n hx hb dL_law_389 rfl (lv_at hl 3 rfl) ?_
  refine lv_iload_n hx hb dL_law_390 rfl (lv_at hl 0 rfl) ?_
  refine lv_iconst (v := 1) hx hb dL_law_391 (by decide) ?_
  refine lv_iadd hx hb dL_law_392 ?_
  refine sy_top (y := nI (6 * t + 1)) (by rw [show (1 : Int32) = nI 1 from rfl, nI_add]) ?_
  refine va_sld hx hb hX hbl hbA X.2.2.2 (i := nI (6 * t + 1)) (zz_in (by omega) (by omega)) dL_law_393 ?_
  refine sy_vi (rest := [.int r2]) fx hA X hl.1 (sy_OModel_o hM) (sy_en11 (sy_OModel_o hM).2) rfl (c_Model_join l hM hc2) cv_Model_join wm_625 ⟨Nat.le_of_ble_eq_true rfl, Nat.le_of_ble_eq_true rfl, hcr, hsr⟩ rfl rfl (Nat.le_of_ble_eq_true rfl) dL_law_394 (fun H locs X => ?_)
  refine lv_icmp_eq (tgt := 971) hx hb dL_law_397 (by decide) (fun _ => ?_) (fun q => absurd rfl q)
  exact kk S2 H locs X hI2
set_option maxRecDepth 100000 in
set_option maxHeartbeats 40000000 in
theorem lw_10_fruit (fx : CallFix p m c code 4 s args sy_W RL) (hA : ∀ q, s.heap.size ≤ q → A q) (hX : va_X b L xs s s.heap) (hbl : b < s.heap.size) (hbA : ¬ A b) (hT : sy_OTop E) (hM : sy_OModel E) (X : sy_Wd E A s S H locs) (hI : zi_Inv S (100 * t)) (ht : 6 * t + 6 ≤ L) (hL : L ≤ 384) (hl : lv_has ls 4 [(3, .int (nI (6 * t))), (2, .ref (sy_ad E 392)), (1, .ref (sy_ad E 0)), (0, .ref b)]) (hc : cells ≤ 1000) (hs : slots ≤ 100000)
    (kk : ∀ (S2 : sy_St) (H : Heap) (locs : List Loc), sy_Wd E A s S2 H locs → zi_Inv S2 (100 * t + 100) → W p l e room_1 s m args below meth c H locs cells slots Q (F0 m 971 ls [])) : W p l e room_1 s m args below meth c H locs cells slots Q (F0 m 402 ls []) := by
  have hx := fx.1
  have hb := fx.2.1
  have hcr : cells ≤ room_1.cells := Nat.le_trans hc (Nat.le_of_ble_eq_true rfl)
  have hsr : slots ≤ room_1.slots := Nat.le_trans hs (Nat.le_of_ble_eq_true rfl)
  obtain ⟨e0, wc, M, hall⟩ := hI
  obtain ⟨r, S1, hc1, r2, S2, hc2, hr2, hI2⟩ := zo_fruit (xs (nI (6 * t + 1)).toNatClampNeg) S e0 wc M (100 * t) (by omega) hall
  subst hr2
  refine lv_aload_n hx hb dL_law_402 rfl (lv_at hl 2 rfl) ?_
  refine lv_aload_n hx hb dL_law_403 rfl (lv_at hl 3 rfl) ?_
  refine lv_iload_n hx hb dL_law_404 rfl (lv_at hl 0 rfl) ?_
  refine lv_iconst (v := 1) hx hb dL_law_405 (by decide) ?_
  refine lv_iadd hx hb dL_law_406 ?_
  refine sy_top (y := nI (6 * t + 1)) (by rw [show (1 : Int32) = nI 1 from rfl, nI_add]) ?_
  refine va_sld hx hb hX hbl hbA X.2.2.2 (i := nI (6 * t + 1)) (zz_in (by omega) (by omega)) dL_law_407 ?_
  refine sy_vi (rest := []) fx hA X hl.1 (sy_OTop_o hT) (sy_en10 (sy_OTop_o hT).2) rfl (c_Top_fruit l hT hc1) cv_Top_fruit wm_633 ⟨Nat.le_of_ble_eq_true rfl, Nat.le_of_ble_eq_true rfl, hcr, hsr⟩ rfl rfl (Nat.le_of_ble_eq_true rfl) dL_law_408 (fun H locs X => ?_)
  refine lv_aload_n hx hb dL_law_411 rfl (lv_at hl 1 rfl) ?_
  refine lv_aload_n hx hb dL_law_412 rfl (lv_at hl 3 rfl) ?_
  refine lv_iload_n hx hb dL_law_413 rfl (lv_at hl 0 rfl) ?_
  refine lv_iconst (v := 1) hx hb dL_law_414 (by decide) ?_
  refine lv_iadd hx hb dL_law_415 ?_
  refine sy_top (y := nI (6 * t + 1)) (by rw [show (1 : Int32) = nI 1 from rfl, nI_add]) ?_
  refine va_sld hx hb hX hbl hbA X.2.2.2 (i := nI (6 * t + 1)) (zz_in (by omega) (by omega)) dL_law_416 ?_
  refine sy_vi (rest := [.int r2]) fx hA X hl.1 (sy_OModel_o hM) (sy_en11 (sy_OModel_o hM).2) rfl (c_Model_fruit l hM hc2) cv_Model_fruit wm_638 ⟨Nat.le_of_ble_eq_true rfl, Nat.le_of_ble_eq_true rfl, hcr, hsr⟩ rfl rfl (Nat.le_of_ble_eq_true rfl) dL_law_417 (fun H locs X => ?_)
  refine lv_icmp_eq (tgt := 971) hx hb dL_law_420 (by decide) (fun _ => ?_) (fun q => absurd rfl q)
  exact kk S2 H locs X hI2
set_option maxRecDepth 100000 in
set_option maxHeartbeats 40000000 in
theorem lw_11_drift (fx : CallFix p m c code 4 s args sy_W RL) (hA : ∀ q, s.heap.size ≤ q → A q) (hX : va_X b L xs s s.heap) (hbl : b < s.heap.size) (hbA : ¬ A b) (hT : sy_OTop E) (hM : sy_OModel E) (X : sy_Wd E A s S H locs) (hI : zi_Inv S (100 * t)) (ht : 6 * t + 6 ≤ L) (hL : L ≤ 384) (hl : lv_has ls 4 [(3, .int (nI (6 * t))), (2, .ref (sy_ad E 392)), (1, .ref (sy_ad E 0)), (0, .ref b)]) (hc : cells ≤ 1000) (hs : slots ≤ 100000)
    (kk : ∀ (S2 : sy_St) (H : Heap) (locs : List Loc), sy_Wd E A s S2 H locs → zi_Inv S2 (100 * t + 100) → W p l e room_1 s m args below meth c H locs cells slots Q (F0 m 971 ls [])) : W p l e room_1 s m args below meth c H locs cells slots Q (F0 m 425 ls []) := by
  have hx := fx.1
  have hb := fx.2.1
  have hcr : cells ≤ room_1.cells := Nat.le_trans hc (Nat.le_of_ble_eq_true rfl)
  have hsr : slots ≤ room_1.slots := Nat.le_trans hs (Nat.le_of_ble_eq_true rfl)
  obtain ⟨e0, wc, M, hall⟩ := hI
  obtain ⟨r, S1, hc1, r2, S2, hc2, hr2, hI2⟩ := zo_drift (xs (nI (6 * t + 1)).toNatClampNeg) S e0 wc M (100 * t) (by omega) hall
  subst hr2
  refine lv_aload_n hx hb dL_law_425 rfl (lv_at hl 2 rfl) ?_
  refine lv_aload_n hx hb dL_law_426 rfl (lv_at hl 3 rfl) ?_
  refine lv_iload_n hx hb dL_law_427 rfl (lv_at hl 0 rfl) ?_
  refine lv_iconst (v := 1) hx hb dL_law_428 (by decide) ?_
  refine lv_iadd hx hb dL_law_429 ?_
  refine sy_top (y := nI (6 * t + 1)) (by rw [show (1 : Int32) = nI 1 from rfl, nI_add]) ?_
  refine va_sld hx hb hX hbl hbA X.2.2.2 (i := nI (6 * t + 1)) (zz_in (by omega) (by omega)) dL_law_430 ?_
  refine sy_vi (rest := []) fx hA X hl.1 (sy_OTop_o hT) (sy_en10 (sy_OTop_o hT).2) rfl (c_Top_drift l hT hc1) cv_Top_drift wm_642 ⟨Nat.le_of_ble_eq_true rfl, Nat.le_of_ble_eq_true rfl, hcr, hsr⟩ rfl rfl (Nat.le_of_ble_eq_true rfl) dL_law_431 (fun H locs X => ?_)
  refine lv_aload_n hx hb dL_law_434 rfl (lv_at hl 1 rfl) ?_
  refine lv_aload_n hx hb dL_law_435 rfl (lv_at hl 3 rfl) ?_
  refine lv_iload_n hx hb dL_law_436 rfl (lv_at hl 0 rfl) ?_
  refine lv_iconst (v := 1) hx hb dL_law_437 (by decide) ?_
  refine lv_iadd hx hb dL_law_438 ?_
  refine sy_top (y := nI (6 * t + 1)) (by rw [show (1 : Int32) = nI 1 from rfl, nI_add]) ?_
  refine va_sld hx hb hX hbl hbA X.2.2.2 (i := nI (6 * t + 1)) (zz_in (by omega) (by omega)) dL_law_439 ?_
  refine sy_vi (rest := [.int r2]) fx hA X hl.1 (sy_OModel_o hM) (sy_en11 (sy_OModel_o hM).2) rfl (c_Model_drift l hM hc2) cv_Model_drift wm_658 ⟨Nat.le_of_ble_eq_true rfl, Nat.le_of_ble_eq_true rfl, hcr, hsr⟩ rfl rfl (Nat.le_of_ble_eq_true rfl) dL_law_440 (fun H locs X => ?_)
  refine lv_icmp_eq (tgt := 971) hx hb dL_law_443 (by decide) (fun _ => ?_) (fun q => absurd rfl q)
  exact kk S2 H locs X hI2
set_option maxRecDepth 100000 in
set_option maxHeartbeats 40000000 in
theorem lw_12_undo (fx : CallFix p m c code 4 s args sy_W RL) (hA : ∀ q, s.heap.size ≤ q → A q) (hX : va_X b L xs s s.heap) (hbl : b < s.heap.size) (hbA : ¬ A b) (hT : sy_OTop E) (hM : sy_OModel E) (X : sy_Wd E A s S H locs) (hI : zi_Inv S (100 * t)) (ht : 6 * t + 6 ≤ L) (hL : L ≤ 384) (hl : lv_has ls 4 [(3, .int (nI (6 * t))), (2, .ref (sy_ad E 392)), (1, .ref (sy_ad E 0)), (0, .ref b)]) (hc : cells ≤ 1000) (hs : slots ≤ 100000)
    (kk : ∀ (S2 : sy_St) (H : Heap) (locs : List Loc), sy_Wd E A s S2 H locs → zi_Inv S2 (100 * t + 100) → W p l e room_1 s m args below meth c H locs cells slots Q (F0 m 971 ls [])) : W p l e room_1 s m args below meth c H locs cells slots Q (F0 m 448 ls []) := by
  have hx := fx.1
  have hb := fx.2.1
  have hcr : cells ≤ room_1.cells := Nat.le_trans hc (Nat.le_of_ble_eq_true rfl)
  have hsr : slots ≤ room_1.slots := Nat.le_trans hs (Nat.le_of_ble_eq_true rfl)
  obtain ⟨e0, wc, M, hall⟩ := hI
  obtain ⟨r, S1, hc1, r2, S2, hc2, hr2, hI2⟩ := zo_undo (xs (nI (6 * t + 1)).toNatClampNeg) S e0 wc M (100 * t) (by omega) hall
  subst hr2
  refine lv_aload_n hx hb dL_law_448 rfl (lv_at hl 2 rfl) ?_
  refine lv_aload_n hx hb dL_law_449 rfl (lv_at hl 3 rfl) ?_
  refine lv_iload_n hx hb dL_law_450 rfl (lv_at hl 0 rfl) ?_
  refine lv_iconst (v := 1) hx hb dL_law_451 (by decide) ?_
  refine lv_iadd hx hb dL_law_452 ?_
  refine sy_top (y := nI (6 * t + 1)) (by rw [show (1 : Int32) = nI 1 from rfl, nI_add]) ?_
  refine va_sld hx hb hX hbl hbA X.2.2.2 (i := nI (6 * t + 1)) (zz_in (by omega) (by omega)) dL_law_453 ?_
  refine sy_vi (rest := []) fx hA X hl.1 (sy_OTop_o hT) (sy_en10 (sy_OTop_o hT).2) rfl (c_Top_undo l hT hc1) cv_Top_undo wm_670 ⟨Nat.le_of_ble_eq_true rfl, Nat.le_of_ble_eq_true rfl, hcr, hsr⟩ rfl rfl (Nat.le_of_ble_eq_true rfl) dL_law_454 (fun H locs X => ?_)
  refine lv_aload_n hx hb dL_law_457 rfl (lv_at hl 1 rfl) ?_
  refine lv_aload_n hx hb dL_law_458 rfl (lv_at hl 3 rfl) ?_
  refine lv_iload_n hx hb dL_law_459 rfl (lv_at hl 0 rfl) ?_
  refine lv_iconst (v := 1) hx hb dL_law_460 (by decide) ?_
  refine lv_iadd hx hb dL_law_461 ?_
  refine sy_top (y := nI (6 * t + 1)) (by rw [show (1 : Int32) = nI 1 from rfl, nI_add]) ?_
  refine va_sld hx hb hX hbl hbA X.2.2.2 (i := nI (6 * t + 1)) (zz_in (by omega) (by omega)) dL_law_462 ?_
  refine sy_vi (rest := [.int r2]) fx hA X hl.1 (sy_OModel_o hM) (sy_en11 (sy_OModel_o hM).2) rfl (c_Model_undo l hM hc2) cv_Model_undo wm_678 ⟨Nat.le_of_ble_eq_true rfl, Nat.le_of_ble_eq_true rfl, hcr, hsr⟩ rfl rfl (Nat.le_of_ble_eq_true rfl) dL_law_463 (fun H locs X => ?_)
  refine lv_icmp_eq (tgt := 971) hx hb dL_law_466 (by decide) (fun _ => ?_) (fun q => absurd rfl q)
  exact kk S2 H locs X hI2
set_option maxRecDepth 100000 in
set_option maxHeartbeats 40000000 in
theorem lw_13_shifts (fx : CallFix p m c code 4 s args sy_W RL) (hA : ∀ q, s.heap.size ≤ q → A q) (hX : va_X b L xs s s.heap) (hbl : b < s.heap.size) (hbA : ¬ A b) (hT : sy_OTop E) (hM : sy_OModel E) (X : sy_Wd E A s S H locs) (hI : zi_Inv S (100 * t)) (ht : 6 * t + 6 ≤ L) (hL : L ≤ 384) (hl : lv_has ls 4 [(3, .int (nI (6 * t))), (2, .ref (sy_ad E 392)), (1, .ref (sy_ad E 0)), (0, .ref b)]) (hc : cells ≤ 1000) (hs : slots ≤ 100000)
    (kk : ∀ (S2 : sy_St) (H : Heap) (locs : List Loc), sy_Wd E A s S2 H locs → zi_Inv S2 (100 * t + 100) → W p l e room_1 s m args below meth c H locs cells slots Q (F0 m 971 ls [])) : W p l e room_1 s m args below meth c H locs cells slots Q (F0 m 471 ls []) := by
  have hx := fx.1
  have hb := fx.2.1
  have hcr : cells ≤ room_1.cells := Nat.le_trans hc (Nat.le_of_ble_eq_true rfl)
  have hsr : slots ≤ room_1.slots := Nat.le_trans hs (Nat.le_of_ble_eq_true rfl)
  obtain ⟨e0, wc, M, hall⟩ := hI
  obtain ⟨r, S1, hc1, r2, S2, hc2, hr2, hI2⟩ := zo_shifts (xs (nI (6 * t + 1)).toNatClampNeg) (xs (nI (6 * t + 2)).toNatClampNeg) (xs (nI (6 * t + 3)).toNatClampNeg) S e0 wc M (100 * t) (by omega) hall
  subst hr2
  refine lv_aload_n hx hb dL_law_471 rfl (lv_at hl 2 rfl) ?_
  refine lv_aload_n hx hb dL_law_472 rfl (lv_at hl 3 rfl) ?_
  refine lv_iload_n hx hb dL_law_473 rfl (lv_at hl 0 rfl) ?_
  refine lv_iconst (v := 1) hx hb dL_law_474 (by decide) ?_
  refine lv_iadd hx hb dL_law_475 ?_
  refine sy_top (y := nI (6 * t + 1)) (by rw [show (1 : Int32) = nI 1 from rfl, nI_add]) ?_
  refine va_sld hx hb hX hbl hbA X.2.2.2 (i := nI (6 * t + 1)) (zz_in (by omega) (by omega)) dL_law_476 ?_
  refine lv_aload_n hx hb dL_law_477 rfl (lv_at hl 3 rfl) ?_
  refine lv_iload_n hx hb dL_law_478 rfl (lv_at hl 0 rfl) ?_
  refine lv_iconst (v := 2) hx hb dL_law_479 (by decide) ?_
  refine lv_iadd hx hb dL_law_480 ?_
  refine sy_top (y := nI (6 * t + 2)) (by rw [show (2 : Int32) = nI 2 from rfl, nI_add]) ?_
  refine va_sld hx hb hX hbl hbA X.2.2.2 (i := nI (6 * t + 2)) (zz_in (by omega) (by omega)) dL_law_481 ?_
  refine lv_aload_n hx hb dL_law_482 rfl (lv_at hl 3 rfl) ?_
  refine lv_iload_n hx hb dL_law_483 rfl (lv_at hl 0 rfl) ?_
  refine lv_iconst (v := 3) hx hb dL_law_484 (by decide) ?_
  refine lv_iadd hx hb dL_law_485 ?_
  refine sy_top (y := nI (6 * t + 3)) (by rw [show (3 : Int32) = nI 3 from rfl, nI_add]) ?_
  refine va_sld hx hb hX hbl hbA X.2.2.2 (i := nI (6 * t + 3)) (zz_in (by omega) (by omega)) dL_law_486 ?_
  refine sy_vi (rest := []) fx hA X hl.1 (sy_OTop_o hT) (sy_en10 (sy_OTop_o hT).2) rfl (c_Top_shifts l hT hc1) cv_Top_shifts wm_682 ⟨Nat.le_of_ble_eq_true rfl, Nat.le_of_ble_eq_true rfl, hcr, hsr⟩ rfl rfl (Nat.le_of_ble_eq_true rfl) dL_law_487 (fun H locs X => ?_)
  refine lv_aload_n hx hb dL_law_490 rfl (lv_at hl 1 rfl) ?_
  refine lv_aload_n hx hb dL_law_491 rfl (lv_at hl 3 rfl) ?_
  refine lv_iload_n hx hb dL_law_492 rfl (lv_at hl 0 rfl) ?_
  refine lv_iconst (v := 1) hx hb dL_law_493 (by decide) ?_
  refine lv_iadd hx hb dL_law_494 ?_
  refine sy_top (y := nI (6 * t + 1)) (by rw [show (1 : Int32) = nI 1 from rfl, nI_add]) ?_
  refine va_sld hx hb hX hbl hbA X.2.2.2 (i := nI (6 * t + 1)) (zz_in (by omega) (by omega)) dL_law_495 ?_
  refine lv_aload_n hx hb dL_law_496 rfl (lv_at hl 3 rfl) ?_
  refine lv_iload_n hx hb dL_law_497 rfl (lv_at hl 0 rfl) ?_
  refine lv_iconst (v := 2) hx hb dL_law_498 (by decide) ?_
  refine lv_iadd hx hb dL_law_499 ?_
  refine sy_top (y := nI (6 * t + 2)) (by rw [show (2 : Int32) = nI 2 from rfl, nI_add]) ?_
  refine va_sld hx hb hX hbl hbA X.2.2.2 (i := nI (6 * t + 2)) (zz_in (by omega) (by omega)) dL_law_500 ?_
  refine lv_aload_n hx hb dL_law_501 rfl (lv_at hl 3 rfl) ?_
  refine lv_iload_n hx hb dL_law_502 rfl (lv_at hl 0 rfl) ?_
  refine lv_iconst (v := 3) hx hb dL_law_503 (by decide) ?_
  refine lv_iadd hx hb dL_law_504 ?_
  refine sy_top (y := nI (6 * t + 3)) (by rw [show (3 : Int32) = nI 3 from rfl, nI_add]) ?_
  refine va_sld hx hb hX hbl hbA X.2.2.2 (i := nI (6 * t + 3)) (zz_in (by omega) (by omega)) dL_law_505 ?_
  refine sy_vi (rest := [.int r2]) fx hA X hl.1 (sy_OModel_o hM) (sy_en11 (sy_OModel_o hM).2) rfl (c_Model_shifts l hM hc2) cv_Model_shifts wm_763 ⟨Nat.le_of_ble_eq_true rfl, Nat.le_of_ble_eq_true rfl, hcr, hsr⟩ rfl rfl (Nat.le_of_ble_eq_true rfl) dL_law_506 (fun H locs X => ?_)
  refine lv_icmp_eq (tgt := 971) hx hb dL_law_509 (by decide) (fun _ => ?_) (fun q => absurd rfl q)
  exact kk S2 H locs X hI2
set_option maxRecDepth 100000 in
set_option maxHeartbeats 40000000 in
theorem lw_14_sinks (fx : CallFix p m c code 4 s args sy_W RL) (hA : ∀ q, s.heap.size ≤ q → A q) (hX : va_X b L xs s s.heap) (hbl : b < s.heap.size) (hbA : ¬ A b) (hT : sy_OTop E) (hM : sy_OModel E) (X : sy_Wd E A s S H locs) (hI : zi_Inv S (100 * t)) (ht : 6 * t + 6 ≤ L) (hL : L ≤ 384) (hl : lv_has ls 4 [(3, .int (nI (6 * t))), (2, .ref (sy_ad E 392)), (1, .ref (sy_ad E 0)), (0, .ref b)]) (hc : cells ≤ 1000) (hs : slots ≤ 100000)
    (kk : ∀ (S2 : sy_St) (H : Heap) (locs : List Loc), sy_Wd E A s S2 H locs → zi_Inv S2 (100 * t + 100) → W p l e room_1 s m args below meth c H locs cells slots Q (F0 m 971 ls [])) : W p l e room_1 s m args below meth c H locs cells slots Q (F0 m 514 ls []) := by
  have hx := fx.1
  have hb := fx.2.1
  have hcr : cells ≤ room_1.cells := Nat.le_trans hc (Nat.le_of_ble_eq_true rfl)
  have hsr : slots ≤ room_1.slots := Nat.le_trans hs (Nat.le_of_ble_eq_true rfl)
  obtain ⟨e0, wc, M, hall⟩ := hI
  obtain ⟨r, S1, hc1, r2, S2, hc2, hr2, hI2⟩ := zo_sinks (xs (nI (6 * t + 1)).toNatClampNeg) (xs (nI (6 * t + 2)).toNatClampNeg) S e0 wc M (100 * t) (by omega) hall
  subst hr2
  refine lv_aload_n hx hb dL_law_514 rfl (lv_at hl 2 rfl) ?_
  refine lv_aload_n hx hb dL_law_515 rfl (lv_at hl 3 rfl) ?_
  refine lv_iload_n hx hb dL_law_516 rfl (lv_at hl 0 rfl) ?_
  refine lv_iconst (v := 1) hx hb dL_law_517 (by decide) ?_
  refine lv_iadd hx hb dL_law_518 ?_
  refine sy_top (y := nI (6 * t + 1)) (by rw [show (1 : Int32) = nI 1 from rfl, nI_add]) ?_
  refine va_sld hx hb hX hbl hbA X.2.2.2 (i := nI (6 * t + 1)) (zz_in (by omega) (by omega)) dL_law_519 ?_
  refine lv_aload_n hx hb dL_law_520 rfl (lv_at hl 3 rfl) ?_
  refine lv_iload_n hx hb dL_law_521 rfl (lv_at hl 0 rfl) ?_
  refine lv_iconst (v := 2) hx hb dL_law_522 (by decide) ?_
  refine lv_iadd hx hb dL_law_523 ?_
  refine sy_top (y := nI (6 * t + 2)) (by rw [show (2 : Int32) = nI 2 from rfl, nI_add]) ?_
  refine va_sld hx hb hX hbl hbA X.2.2.2 (i := nI (6 * t + 2)) (zz_in (by omega) (by omega)) dL_law_524 ?_
  refine sy_vi (rest := []) fx hA X hl.1 (sy_OTop_o hT) (sy_en10 (sy_OTop_o hT).2) rfl (c_Top_sinks l hT hc1) cv_Top_sinks wm_782 ⟨Nat.le_of_ble_eq_true rfl, Nat.le_of_ble_eq_true rfl, hcr, hsr⟩ rfl rfl (Nat.le_of_ble_eq_true rfl) dL_law_525 (fun H locs X => ?_)
  refine lv_aload_n hx hb dL_law_528 rfl (lv_at hl 1 rfl) ?_
  refine lv_aload_n hx hb dL_law_529 rfl (lv_at hl 3 rfl) ?_
  refine lv_iload_n hx hb dL_law_530 rfl (lv_at hl 0 rfl) ?_
  refine lv_iconst (v := 1) hx hb dL_law_531 (by decide) ?_
  refine lv_iadd hx hb dL_law_532 ?_
  refine sy_top (y := nI (6 * t + 1)) (by rw [show (1 : Int32) = nI 1 from rfl, nI_add]) ?_
  refine va_sld hx hb hX hbl hbA X.2.2.2 (i := nI (6 * t + 1)) (zz_in (by omega) (by omega)) dL_law_533 ?_
  refine lv_aload_n hx hb dL_law_534 rfl (lv_at hl 3 rfl) ?_
  refine lv_iload_n hx hb dL_law_535 rfl (lv_at hl 0 rfl) ?_
  refine lv_iconst (v := 2) hx hb dL_law_536 (by decide) ?_
  refine lv_iadd hx hb dL_law_537 ?_
  refine sy_top (y := nI (6 * t + 2)) (by rw [show (2 : Int32) = nI 2 from rfl, nI_add]) ?_
  refine va_sld hx hb hX hbl hbA X.2.2.2 (i := nI (6 * t + 2)) (zz_in (by omega) (by omega)) dL_law_538 ?_
  refine sy_vi (rest := [.int r2]) fx hA X hl.1 (sy_OModel_o hM) (sy_en11 (sy_OModel_o hM).2) rfl (c_Model_sinks l hM hc2) cv_Model_sinks wm_790 ⟨Nat.le_of_ble_eq_true rfl, Nat.le_of_ble_eq_true rfl, hcr, hsr⟩ rfl rfl (Nat.le_of_ble_eq_true rfl) dL_law_539 (fun H locs X => ?_)
  refine lv_icmp_eq (tgt := 971) hx hb dL_law_542 (by decide) (fun _ => ?_) (fun q => absurd rfl q)
  exact kk S2 H locs X hI2
set_option maxRecDepth 100000 in
set_option maxHeartbeats 40000000 in
theorem lw_15_chain (fx : CallFix p m c code 4 s args sy_W RL) (hA : ∀ q, s.heap.size ≤ q → A q) (hX : va_X b L xs s s.heap) (hbl : b < s.heap.size) (hbA : ¬ A b) (hT : sy_OTop E) (hM : sy_OModel E) (X : sy_Wd E A s S H locs) (hI : zi_Inv S (100 * t)) (ht : 6 * t + 6 ≤ L) (hL : L ≤ 384) (hl : lv_has ls 4 [(3, .int (nI (6 * t))), (2, .ref (sy_ad E 392)), (1, .ref (sy_ad E 0)), (0, .ref b)]) (hc : cells ≤ 1000) (hs : slots ≤ 100000)
    (kk : ∀ (S2 : sy_St) (H : Heap) (locs : List Loc), sy_Wd E A s S2 H locs → zi_Inv S2 (100 * t + 100) → W p l e room_1 s m args below meth c H locs cells slots Q (F0 m 971 ls [])) : W p l e room_1 s m args below meth c H locs cells slots Q (F0 m 547 ls []) := by
  have hx := fx.1
  have hb := fx.2.1
  have hcr : cells ≤ room_1.cells := Nat.le_trans hc (Nat.le_of_ble_eq_true rfl)
  have hsr : slots ≤ room_1.slots := Nat.le_trans hs (Nat.le_of_ble_eq_true rfl)
  obtain ⟨e0, wc, M, hall⟩ := hI
  obtain ⟨r, S1, hc1, r2, S2, hc2, hr2, hI2⟩ := zo_chain (xs (nI (6 * t + 1)).toNatClampNeg) (xs (nI (6 * t + 2)).toNatClampNeg) S e0 wc M (100 * t) (by omega) hall
  subst hr2
  refine lv_aload_n hx hb dL_law_547 rfl (lv_at hl 2 rfl) ?_
  refine lv_aload_n hx hb dL_law_548 rfl (lv_at hl 3 rfl) ?_
  refine lv_iload_n hx hb dL_law_549 rfl (lv_at hl 0 rfl) ?_
  refine lv_iconst (v := 1) hx hb dL_law_550 (by decide) ?_
  refine lv_iadd hx hb dL_law_551 ?_
  refine sy_top (y := nI (6 * t + 1)) (by rw [show (1 : Int32) = nI 1 from rfl, nI_add]) ?_
  refine va_sld hx hb hX hbl hbA X.2.2.2 (i := nI (6 * t + 1)) (zz_in (by omega) (by omega)) dL_law_552 ?_
  refine lv_aload_n hx hb dL_law_553 rfl (lv_at hl 3 rfl) ?_
  refine lv_iload_n hx hb dL_law_554 rfl (lv_at hl 0 rfl) ?_
  refine lv_iconst (v := 2) hx hb dL_law_555 (by decide) ?_
  refine lv_iadd hx hb dL_law_556 ?_
  refine sy_top (y := nI (6 * t + 2)) (by rw [show (2 : Int32) = nI 2 from rfl, nI_add]) ?_
  refine va_sld hx hb hX hbl hbA X.2.2.2 (i := nI (6 * t + 2)) (zz_in (by omega) (by omega)) dL_law_557 ?_
  refine sy_vi (rest := []) fx hA X hl.1 (sy_OTop_o hT) (sy_en10 (sy_OTop_o hT).2) rfl (c_Top_chain l hT hc1) cv_Top_chain wm_794 ⟨Nat.le_of_ble_eq_true rfl, Nat.le_of_ble_eq_true rfl, hcr, hsr⟩ rfl rfl (Nat.le_of_ble_eq_true rfl) dL_law_558 (fun H locs X => ?_)
  refine lv_aload_n hx hb dL_law_561 rfl (lv_at hl 1 rfl) ?_
  refine lv_aload_n hx hb dL_law_562 rfl (lv_at hl 3 rfl) ?_
  refine lv_iload_n hx hb dL_law_563 rfl (lv_at hl 0 rfl) ?_
  refine lv_iconst (v := 1) hx hb dL_law_564 (by decide) ?_
  refine lv_iadd hx hb dL_law_565 ?_
  refine sy_top (y := nI (6 * t + 1)) (by rw [show (1 : Int32) = nI 1 from rfl, nI_add]) ?_
  refine va_sld hx hb hX hbl hbA X.2.2.2 (i := nI (6 * t + 1)) (zz_in (by omega) (by omega)) dL_law_566 ?_
  refine lv_aload_n hx hb dL_law_567 rfl (lv_at hl 3 rfl) ?_
  refine lv_iload_n hx hb dL_law_568 rfl (lv_at hl 0 rfl) ?_
  refine lv_iconst (v := 2) hx hb dL_law_569 (by decide) ?_
  refine lv_iadd hx hb dL_law_570 ?_
  refine sy_top (y := nI (6 * t + 2)) (by rw [show (2 : Int32) = nI 2 from rfl, nI_add]) ?_
  refine va_sld hx hb hX hbl hbA X.2.2.2 (i := nI (6 * t + 2)) (zz_in (by omega) (by omega)) dL_law_571 ?_
  refine sy_vi (rest := [.int r2]) fx hA X hl.1 (sy_OModel_o hM) (sy_en11 (sy_OModel_o hM).2) rfl (c_Model_chain l hM hc2) cv_Model_chain wm_832 ⟨Nat.le_of_ble_eq_true rfl, Nat.le_of_ble_eq_true rfl, hcr, hsr⟩ rfl rfl (Nat.le_of_ble_eq_true rfl) dL_law_572 (fun H locs X => ?_)
  refine lv_icmp_eq (tgt := 971) hx hb dL_law_575 (by decide) (fun _ => ?_) (fun q => absurd rfl q)
  exact kk S2 H locs X hI2
set_option maxRecDepth 100000 in
set_option maxHeartbeats 40000000 in
theorem lw_16_pair (fx : CallFix p m c code 4 s args sy_W RL) (hA : ∀ q, s.heap.size ≤ q → A q) (hX : va_X b L xs s s.heap) (hbl : b < s.heap.size) (hbA : ¬ A b) (hT : sy_OTop E) (hM : sy_OModel E) (X : sy_Wd E A s S H locs) (hI : zi_Inv S (100 * t)) (ht : 6 * t + 6 ≤ L) (hL : L ≤ 384) (hl : lv_has ls 4 [(3, .int (nI (6 * t))), (2, .ref (sy_ad E 392)), (1, .ref (sy_ad E 0)), (0, .ref b)]) (hc : cells ≤ 1000) (hs : slots ≤ 100000)
    (kk : ∀ (S2 : sy_St) (H : Heap) (locs : List Loc), sy_Wd E A s S2 H locs → zi_Inv S2 (100 * t + 100) → W p l e room_1 s m args below meth c H locs cells slots Q (F0 m 971 ls [])) : W p l e room_1 s m args below meth c H locs cells slots Q (F0 m 580 ls []) := by
  have hx := fx.1
  have hb := fx.2.1
  have hcr : cells ≤ room_1.cells := Nat.le_trans hc (Nat.le_of_ble_eq_true rfl)
  have hsr : slots ≤ room_1.slots := Nat.le_trans hs (Nat.le_of_ble_eq_true rfl)
  obtain ⟨e0, wc, M, hall⟩ := hI
  obtain ⟨r, S1, hc1, r2, S2, hc2, hr2, hI2⟩ := zo_pair (xs (nI (6 * t + 1)).toNatClampNeg) S e0 wc M (100 * t) (by omega) hall
  subst hr2
  refine lv_aload_n hx hb dL_law_580 rfl (lv_at hl 2 rfl) ?_
  refine lv_aload_n hx hb dL_law_581 rfl (lv_at hl 3 rfl) ?_
  refine lv_iload_n hx hb dL_law_582 rfl (lv_at hl 0 rfl) ?_
  refine lv_iconst (v := 1) hx hb dL_law_583 (by decide) ?_
  refine lv_iadd hx hb dL_law_584 ?_
  refine sy_top (y := nI (6 * t + 1)) (by rw [show (1 : Int32) = nI 1 from rfl, nI_add]) ?_
  refine va_sld hx hb hX hbl hbA X.2.2.2 (i := nI (6 * t + 1)) (zz_in (by omega) (by omega)) dL_law_585 ?_
  refine sy_vi (rest := []) fx hA X hl.1 (sy_OTop_o hT) (sy_en10 (sy_OTop_o hT).2) rfl (c_Top_pair l hT hc1) cv_Top_pair wm_848 ⟨Nat.le_of_ble_eq_true rfl, Nat.le_of_ble_eq_true rfl, hcr, hsr⟩ rfl rfl (Nat.le_of_ble_eq_true rfl) dL_law_586 (fun H locs X => ?_)
  refine lv_aload_n hx hb dL_law_589 rfl (lv_at hl 1 rfl) ?_
  refine lv_aload_n hx hb dL_law_590 rfl (lv_at hl 3 rfl) ?_
  refine lv_iload_n hx hb dL_law_591 rfl (lv_at hl 0 rfl) ?_
  refine lv_iconst (v := 1) hx hb dL_law_592 (by decide) ?_
  refine lv_iadd hx hb dL_law_593 ?_
  refine sy_top (y := nI (6 * t + 1)) (by rw [show (1 : Int32) = nI 1 from rfl, nI_add]) ?_
  refine va_sld hx hb hX hbl hbA X.2.2.2 (i := nI (6 * t + 1)) (zz_in (by omega) (by omega)) dL_law_594 ?_
  refine sy_vi (rest := [.int r2]) fx hA X hl.1 (sy_OModel_o hM) (sy_en11 (sy_OModel_o hM).2) rfl (c_Model_pair l hM hc2) cv_Model_pair wm_852 ⟨Nat.le_of_ble_eq_true rfl, Nat.le_of_ble_eq_true rfl, hcr, hsr⟩ rfl rfl (Nat.le_of_ble_eq_true rfl) dL_law_595 (fun H locs X => ?_)
  refine lv_icmp_eq (tgt := 971) hx hb dL_law_598 (by decide) (fun _ => ?_) (fun q => absurd rfl q)
  exact kk S2 H locs X hI2
set_option maxRecDepth 100000 in
set_option maxHeartbeats 40000000 in
theorem lw_17_owes (fx : CallFix p m c code 4 s args sy_W RL) (hA : ∀ q, s.heap.size ≤ q → A q) (hX : va_X b L xs s s.heap) (hbl : b < s.heap.size) (hbA : ¬ A b) (hT : sy_OTop E) (hM : sy_OModel E) (X : sy_Wd E A s S H locs) (hI : zi_Inv S (100 * t)) (ht : 6 * t + 6 ≤ L) (hL : L ≤ 384) (hl : lv_has ls 4 [(3, .int (nI (6 * t))), (2, .ref (sy_ad E 392)), (1, .ref (sy_ad E 0)), (0, .ref b)]) (hc : cells ≤ 1000) (hs : slots ≤ 100000)
    (kk : ∀ (S2 : sy_St) (H : Heap) (locs : List Loc), sy_Wd E A s S2 H locs → zi_Inv S2 (100 * t + 100) → W p l e room_1 s m args below meth c H locs cells slots Q (F0 m 971 ls [])) : W p l e room_1 s m args below meth c H locs cells slots Q (F0 m 603 ls []) := by
  have hx := fx.1
  have hb := fx.2.1
  have hcr : cells ≤ room_1.cells := Nat.le_trans hc (Nat.le_of_ble_eq_true rfl)
  have hsr : slots ≤ room_1.slots := Nat.le_trans hs (Nat.le_of_ble_eq_true rfl)
  obtain ⟨e0, wc, M, hall⟩ := hI
  obtain ⟨r, S1, hc1, r2, S2, hc2, hr2, hI2⟩ := zo_owes (xs (nI (6 * t + 1)).toNatClampNeg) S e0 wc M (100 * t) (by omega) hall
  subst hr2
  refine lv_aload_n hx hb dL_law_603 rfl (lv_at hl 2 rfl) ?_
  refine lv_aload_n hx hb dL_law_604 rfl (lv_at hl 3 rfl) ?_
  refine lv_iload_n hx hb dL_law_605 rfl (lv_at hl 0 rfl) ?_
  refine lv_iconst (v := 1) hx hb dL_law_606 (by decide) ?_
  refine lv_iadd hx hb dL_law_607 ?_
  refine sy_top (y := nI (6 * t + 1)) (by rw [show (1 : Int32) = nI 1 from rfl, nI_add]) ?_
  refine va_sld hx hb hX hbl hbA X.2.2.2 (i := nI (6 * t + 1)) (zz_in (by omega) (by omega)) dL_law_608 ?_
  refine sy_vi (rest := []) fx hA X hl.1 (sy_OTop_o hT) (sy_en10 (sy_OTop_o hT).2) rfl (c_Top_owes l hT hc1) cv_Top_owes wm_856 ⟨Nat.le_of_ble_eq_true rfl, Nat.le_of_ble_eq_true rfl, hcr, hsr⟩ rfl rfl (Nat.le_of_ble_eq_true rfl) dL_law_609 (fun H locs X => ?_)
  refine lv_aload_n hx hb dL_law_612 rfl (lv_at hl 1 rfl) ?_
  refine lv_aload_n hx hb dL_law_613 rfl (lv_at hl 3 rfl) ?_
  refine lv_iload_n hx hb dL_law_614 rfl (lv_at hl 0 rfl) ?_
  refine lv_iconst (v := 1) hx hb dL_law_615 (by decide) ?_
  refine lv_iadd hx hb dL_law_616 ?_
  refine sy_top (y := nI (6 * t + 1)) (by rw [show (1 : Int32) = nI 1 from rfl, nI_add]) ?_
  refine va_sld hx hb hX hbl hbA X.2.2.2 (i := nI (6 * t + 1)) (zz_in (by omega) (by omega)) dL_law_617 ?_
  refine sy_vi (rest := [.int r2]) fx hA X hl.1 (sy_OModel_o hM) (sy_en11 (sy_OModel_o hM).2) rfl (c_Model_owes l hM hc2) cv_Model_owes wm_866 ⟨Nat.le_of_ble_eq_true rfl, Nat.le_of_ble_eq_true rfl, hcr, hsr⟩ rfl rfl (Nat.le_of_ble_eq_true rfl) dL_law_618 (fun H locs X => ?_)
  refine lv_icmp_eq (tgt := 971) hx hb dL_law_621 (by decide) (fun _ => ?_) (fun q => absurd rfl q)
  exact kk S2 H locs X hI2
set_option maxRecDepth 100000 in
set_option maxHeartbeats 40000000 in
theorem lw_18_payments (fx : CallFix p m c code 4 s args sy_W RL) (hA : ∀ q, s.heap.size ≤ q → A q) (hX : va_X b L xs s s.heap) (hbl : b < s.heap.size) (hbA : ¬ A b) (hT : sy_OTop E) (hM : sy_OModel E) (X : sy_Wd E A s S H locs) (hI : zi_Inv S (100 * t)) (ht : 6 * t + 6 ≤ L) (hL : L ≤ 384) (hl : lv_has ls 4 [(3, .int (nI (6 * t))), (2, .ref (sy_ad E 392)), (1, .ref (sy_ad E 0)), (0, .ref b)]) (hc : cells ≤ 1000) (hs : slots ≤ 100000)
    (kk : ∀ (S2 : sy_St) (H : Heap) (locs : List Loc), sy_Wd E A s S2 H locs → zi_Inv S2 (100 * t + 100) → W p l e room_1 s m args below meth c H locs cells slots Q (F0 m 971 ls [])) : W p l e room_1 s m args below meth c H locs cells slots Q (F0 m 626 ls []) := by
  have hx := fx.1
  have hb := fx.2.1
  have hcr : cells ≤ room_1.cells := Nat.le_trans hc (Nat.le_of_ble_eq_true rfl)
  have hsr : slots ≤ room_1.slots := Nat.le_trans hs (Nat.le_of_ble_eq_true rfl)
  obtain ⟨e0, wc, M, hall⟩ := hI
  obtain ⟨r, S1, hc1, r2, S2, hc2, hr2, hI2⟩ := zo_payments S e0 wc M (100 * t) (by omega) hall
  subst hr2
  refine lv_aload_n hx hb dL_law_626 rfl (lv_at hl 2 rfl) ?_
  refine sy_vi (rest := []) fx hA X hl.1 (sy_OTop_o hT) (sy_en10 (sy_OTop_o hT).2) rfl (c_Top_payments l hT hc1) cv_Top_payments wm_874 ⟨Nat.le_of_ble_eq_true rfl, Nat.le_of_ble_eq_true rfl, hcr, hsr⟩ rfl rfl (Nat.le_of_ble_eq_true rfl) dL_law_627 (fun H locs X => ?_)
  refine lv_aload_n hx hb dL_law_630 rfl (lv_at hl 1 rfl) ?_
  refine sy_vi (rest := [.int r2]) fx hA X hl.1 (sy_OModel_o hM) (sy_en11 (sy_OModel_o hM).2) rfl (c_Model_payments l hM hc2) cv_Model_payments wm_884 ⟨Nat.le_of_ble_eq_true rfl, Nat.le_of_ble_eq_true rfl, hcr, hsr⟩ rfl rfl (Nat.le_of_ble_eq_true rfl) dL_law_631 (fun H locs X => ?_)
  refine lv_icmp_eq (tgt := 971) hx hb dL_law_634 (by decide) (fun _ => ?_) (fun q => absurd rfl q)
  exact kk S2 H locs X hI2
set_option maxRecDepth 100000 in
set_option maxHeartbeats 40000000 in
theorem lw_19_sons (fx : CallFix p m c code 4 s args sy_W RL) (hA : ∀ q, s.heap.size ≤ q → A q) (hX : va_X b L xs s s.heap) (hbl : b < s.heap.size) (hbA : ¬ A b) (hT : sy_OTop E) (hM : sy_OModel E) (X : sy_Wd E A s S H locs) (hI : zi_Inv S (100 * t)) (ht : 6 * t + 6 ≤ L) (hL : L ≤ 384) (hl : lv_has ls 4 [(3, .int (nI (6 * t))), (2, .ref (sy_ad E 392)), (1, .ref (sy_ad E 0)), (0, .ref b)]) (hc : cells ≤ 1000) (hs : slots ≤ 100000)
    (kk : ∀ (S2 : sy_St) (H : Heap) (locs : List Loc), sy_Wd E A s S2 H locs → zi_Inv S2 (100 * t + 100) → W p l e room_1 s m args below meth c H locs cells slots Q (F0 m 971 ls [])) : W p l e room_1 s m args below meth c H locs cells slots Q (F0 m 639 ls []) := by
  have hx := fx.1
  have hb := fx.2.1
  have hcr : cells ≤ room_1.cells := Nat.le_trans hc (Nat.le_of_ble_eq_true rfl)
  have hsr : slots ≤ room_1.slots := Nat.le_trans hs (Nat.le_of_ble_eq_true rfl)
  obtain ⟨e0, wc, M, hall⟩ := hI
  obtain ⟨r, S1, hc1, r2, S2, hc2, hr2, hI2⟩ := zo_sons (xs (nI (6 * t + 1)).toNatClampNeg) S e0 wc M (100 * t) (by omega) hall
  subst hr2
  refine lv_aload_n hx hb dL_law_639 rfl (lv_at hl 2 rfl) ?_
  refine lv_aload_n hx hb dL_law_640 rfl (lv_at hl 3 rfl) ?_
  refine lv_iload_n hx hb dL_law_641 rfl (lv_at hl 0 rfl) ?_
  refine lv_iconst (v := 1) hx hb dL_law_642 (by decide) ?_
  refine lv_iadd hx hb dL_law_643 ?_
  refine sy_top (y := nI (6 * t + 1)) (by rw [show (1 : Int32) = nI 1 from rfl, nI_add]) ?_
  refine va_sld hx hb hX hbl hbA X.2.2.2 (i := nI (6 * t + 1)) (zz_in (by omega) (by omega)) dL_law_644 ?_
  refine sy_vi (rest := []) fx hA X hl.1 (sy_OTop_o hT) (sy_en10 (sy_OTop_o hT).2) rfl (c_Top_sons l hT hc1) cv_Top_sons wm_888 ⟨Nat.le_of_ble_eq_true rfl, Nat.le_of_ble_eq_true rfl, hcr, hsr⟩ rfl rfl (Nat.le_of_ble_eq_true rfl) dL_law_645 (fun H locs X => ?_)
  refine lv_aload_n hx hb dL_law_648 rfl (lv_at hl 1 rfl) ?_
  refine lv_aload_n hx hb dL_law_649 rfl (lv_at hl 3 rfl) ?_
  refine lv_iload_n hx hb dL_law_650 rfl (lv_at hl 0 rfl) ?_
  refine lv_iconst (v := 1) hx hb dL_law_651 (by decide) ?_
  refine lv_iadd hx hb dL_law_652 ?_
  refine sy_top (y := nI (6 * t + 1)) (by rw [show (1 : Int32) = nI 1 from rfl, nI_add]) ?_
  refine va_sld hx hb hX hbl hbA X.2.2.2 (i := nI (6 * t + 1)) (zz_in (by omega) (by omega)) dL_law_653 ?_
  refine sy_vi (rest := [.int r2]) fx hA X hl.1 (sy_OModel_o hM) (sy_en11 (sy_OModel_o hM).2) rfl (c_Model_sons l hM hc2) cv_Model_sons wm_902 ⟨Nat.le_of_ble_eq_true rfl, Nat.le_of_ble_eq_true rfl, hcr, hsr⟩ rfl rfl (Nat.le_of_ble_eq_true rfl) dL_law_654 (fun H locs X => ?_)
  refine lv_icmp_eq (tgt := 971) hx hb dL_law_657 (by decide) (fun _ => ?_) (fun q => absurd rfl q)
  exact kk S2 H locs X hI2
set_option maxRecDepth 100000 in
set_option maxHeartbeats 40000000 in
theorem lw_20_words (fx : CallFix p m c code 4 s args sy_W RL) (hA : ∀ q, s.heap.size ≤ q → A q) (hX : va_X b L xs s s.heap) (hbl : b < s.heap.size) (hbA : ¬ A b) (hT : sy_OTop E) (hM : sy_OModel E) (X : sy_Wd E A s S H locs) (hI : zi_Inv S (100 * t)) (ht : 6 * t + 6 ≤ L) (hL : L ≤ 384) (hl : lv_has ls 4 [(3, .int (nI (6 * t))), (2, .ref (sy_ad E 392)), (1, .ref (sy_ad E 0)), (0, .ref b)]) (hc : cells ≤ 1000) (hs : slots ≤ 100000)
    (kk : ∀ (S2 : sy_St) (H : Heap) (locs : List Loc), sy_Wd E A s S2 H locs → zi_Inv S2 (100 * t + 100) → W p l e room_1 s m args below meth c H locs cells slots Q (F0 m 971 ls [])) : W p l e room_1 s m args below meth c H locs cells slots Q (F0 m 662 ls []) := by
  have hx := fx.1
  have hb := fx.2.1
  have hcr : cells ≤ room_1.cells := Nat.le_trans hc (Nat.le_of_ble_eq_true rfl)
  have hsr : slots ≤ room_1.slots := Nat.le_trans hs (Nat.le_of_ble_eq_true rfl)
  obtain ⟨e0, wc, M, hall⟩ := hI
  obtain ⟨r, S1, hc1, r2, S2, hc2, hr2, hI2⟩ := zo_words (xs (nI (6 * t + 1)).toNatClampNeg) (xs (nI (6 * t + 2)).toNatClampNeg) (xs (nI (6 * t + 3)).toNatClampNeg) (xs (nI (6 * t + 4)).toNatClampNeg) (xs (nI (6 * t + 5)).toNatClampNeg) S e0 wc M (100 * t) (by omega) hall
  subst hr2
  refine lv_aload_n hx hb dL_law_662 rfl (lv_at hl 2 rfl) ?_
  refine lv_aload_n hx hb dL_law_663 rfl (lv_at hl 3 rfl) ?_
  refine lv_iload_n hx hb dL_law_664 rfl (lv_at hl 0 rfl) ?_
  refine lv_iconst (v := 1) hx hb dL_law_665 (by decide) ?_
  refine lv_iadd hx hb dL_law_666 ?_
  refine sy_top (y := nI (6 * t + 1)) (by rw [show (1 : Int32) = nI 1 from rfl, nI_add]) ?_
  refine va_sld hx hb hX hbl hbA X.2.2.2 (i := nI (6 * t + 1)) (zz_in (by omega) (by omega)) dL_law_667 ?_
  refine lv_aload_n hx hb dL_law_668 rfl (lv_at hl 3 rfl) ?_
  refine lv_iload_n hx hb dL_law_669 rfl (lv_at hl 0 rfl) ?_
  refine lv_iconst (v := 2) hx hb dL_law_670 (by decide) ?_
  refine lv_iadd hx hb dL_law_671 ?_
  refine sy_top (y := nI (6 * t + 2)) (by rw [show (2 : Int32) = nI 2 from rfl, nI_add]) ?_
  refine va_sld hx hb hX hbl hbA X.2.2.2 (i := nI (6 * t + 2)) (zz_in (by omega) (by omega)) dL_law_672 ?_
  refine lv_aload_n hx hb dL_law_673 rfl (lv_at hl 3 rfl) ?_
  refine lv_iload_n hx hb dL_law_674 rfl (lv_at hl 0 rfl) ?_
  refine lv_iconst (v := 3) hx hb dL_law_675 (by decide) ?_
  refine lv_iadd hx hb dL_law_676 ?_
  refine sy_top (y := nI (6 * t + 3)) (by rw [show (3 : Int32) = nI 3 from rfl, nI_add]) ?_
  refine va_sld hx hb hX hbl hbA X.2.2.2 (i := nI (6 * t + 3)) (zz_in (by omega) (by omega)) dL_law_677 ?_
  refine lv_aload_n hx hb dL_law_678 rfl (lv_at hl 3 rfl) ?_
  refine lv_iload_n hx hb dL_law_679 rfl (lv_at hl 0 rfl) ?_
  refine lv_iconst (v := 4) hx hb dL_law_680 (by decide) ?_
  refine lv_iadd hx hb dL_law_681 ?_
  refine sy_top (y := nI (6 * t + 4)) (by rw [show (4 : Int32) = nI 4 from rfl, nI_add]) ?_
  refine va_sld hx hb hX hbl hbA X.2.2.2 (i := nI (6 * t + 4)) (zz_in (by omega) (by omega)) dL_law_682 ?_
  refine lv_aload_n hx hb dL_law_683 rfl (lv_at hl 3 rfl) ?_
  refine lv_iload_n hx hb dL_law_684 rfl (lv_at hl 0 rfl) ?_
  refine lv_iconst (v := 5) hx hb dL_law_685 (by decide) ?_
  refine lv_iadd hx hb dL_law_686 ?_
  refine sy_top (y := nI (6 * t + 5)) (by rw [show (5 : Int32) = nI 5 from rfl, nI_add]) ?_
  refine va_sld hx hb hX hbl hbA X.2.2.2 (i := nI (6 * t + 5)) (zz_in (by omega) (by omega)) dL_law_687 ?_
  refine sy_vi (rest := []) fx hA X hl.1 (sy_OTop_o hT) (sy_en10 (sy_OTop_o hT).2) rfl (c_Top_words l hT hc1) cv_Top_words wm_906 ⟨Nat.le_of_ble_eq_true rfl, Nat.le_of_ble_eq_true rfl, hcr, hsr⟩ rfl rfl (Nat.le_of_ble_eq_true rfl) dL_law_688 (fun H locs X => ?_)
  refine lv_aload_n hx hb dL_law_691 rfl (lv_at hl 1 rfl) ?_
  refine lv_aload_n hx hb dL_law_692 rfl (lv_at hl 3 rfl) ?_
  refine lv_iload_n hx hb dL_law_693 rfl (lv_at hl 0 rfl) ?_
  refine lv_iconst (v := 1) hx hb dL_law_694 (by decide) ?_
  refine lv_iadd hx hb dL_law_695 ?_
  refine sy_top (y := nI (6 * t + 1)) (by rw [show (1 : Int32) = nI 1 from rfl, nI_add]) ?_
  refine va_sld hx hb hX hbl hbA X.2.2.2 (i := nI (6 * t + 1)) (zz_in (by omega) (by omega)) dL_law_696 ?_
  refine lv_aload_n hx hb dL_law_697 rfl (lv_at hl 3 rfl) ?_
  refine lv_iload_n hx hb dL_law_698 rfl (lv_at hl 0 rfl) ?_
  refine lv_iconst (v := 2) hx hb dL_law_699 (by decide) ?_
  refine lv_iadd hx hb dL_law_700 ?_
  refine sy_top (y := nI (6 * t + 2)) (by rw [show (2 : Int32) = nI 2 from rfl, nI_add]) ?_
  refine va_sld hx hb hX hbl hbA X.2.2.2 (i := nI (6 * t + 2)) (zz_in (by omega) (by omega)) dL_law_701 ?_
  refine lv_aload_n hx hb dL_law_702 rfl (lv_at hl 3 rfl) ?_
  refine lv_iload_n hx hb dL_law_703 rfl (lv_at hl 0 rfl) ?_
  refine lv_iconst (v := 3) hx hb dL_law_704 (by decide) ?_
  refine lv_iadd hx hb dL_law_705 ?_
  refine sy_top (y := nI (6 * t + 3)) (by rw [show (3 : Int32) = nI 3 from rfl, nI_add]) ?_
  refine va_sld hx hb hX hbl hbA X.2.2.2 (i := nI (6 * t + 3)) (zz_in (by omega) (by omega)) dL_law_706 ?_
  refine lv_aload_n hx hb dL_law_707 rfl (lv_at hl 3 rfl) ?_
  refine lv_iload_n hx hb dL_law_708 rfl (lv_at hl 0 rfl) ?_
  refine lv_iconst (v := 4) hx hb dL_law_709 (by decide) ?_
  refine lv_iadd hx hb dL_law_710 ?_
  refine sy_top (y := nI (6 * t + 4)) (by rw [show (4 : Int32) = nI 4 from rfl, nI_add]) ?_
  refine va_sld hx hb hX hbl hbA X.2.2.2 (i := nI (6 * t + 4)) (zz_in (by omega) (by omega)) dL_law_711 ?_
  refine lv_aload_n hx hb dL_law_712 rfl (lv_at hl 3 rfl) ?_
  refine lv_iload_n hx hb dL_law_713 rfl (lv_at hl 0 rfl) ?_
  refine lv_iconst (v := 5) hx hb dL_law_714 (by decide) ?_
  refine lv_iadd hx hb dL_law_715 ?_
  refine sy_top (y := nI (6 * t + 5)) (by rw [show (5 : Int32) = nI 5 from rfl, nI_add]) ?_
  refine va_sld hx hb hX hbl hbA X.2.2.2 (i := nI (6 * t + 5)) (zz_in (by omega) (by omega)) dL_law_716 ?_
  refine sy_vi (rest := [.int r2]) fx hA X hl.1 (sy_OModel_o hM) (sy_en11 (sy_OModel_o hM).2) rfl (c_Model_words l hM hc2) cv_Model_words wm_951 ⟨Nat.le_of_ble_eq_true rfl, Nat.le_of_ble_eq_true rfl, hcr, hsr⟩ rfl rfl (Nat.le_of_ble_eq_true rfl) dL_law_717 (fun H locs X => ?_)
  refine lv_icmp_eq (tgt := 971) hx hb dL_law_720 (by decide) (fun _ => ?_) (fun q => absurd rfl q)
  exact kk S2 H locs X hI2
set_option maxRecDepth 100000 in
set_option maxHeartbeats 40000000 in
theorem lw_21_pillar (fx : CallFix p m c code 4 s args sy_W RL) (hA : ∀ q, s.heap.size ≤ q → A q) (hX : va_X b L xs s s.heap) (hbl : b < s.heap.size) (hbA : ¬ A b) (hT : sy_OTop E) (hM : sy_OModel E) (X : sy_Wd E A s S H locs) (hI : zi_Inv S (100 * t)) (ht : 6 * t + 6 ≤ L) (hL : L ≤ 384) (hl : lv_has ls 4 [(3, .int (nI (6 * t))), (2, .ref (sy_ad E 392)), (1, .ref (sy_ad E 0)), (0, .ref b)]) (hc : cells ≤ 1000) (hs : slots ≤ 100000)
    (kk : ∀ (S2 : sy_St) (H : Heap) (locs : List Loc), sy_Wd E A s S2 H locs → zi_Inv S2 (100 * t + 100) → W p l e room_1 s m args below meth c H locs cells slots Q (F0 m 971 ls [])) : W p l e room_1 s m args below meth c H locs cells slots Q (F0 m 725 ls []) := by
  have hx := fx.1
  have hb := fx.2.1
  have hcr : cells ≤ room_1.cells := Nat.le_trans hc (Nat.le_of_ble_eq_true rfl)
  have hsr : slots ≤ room_1.slots := Nat.le_trans hs (Nat.le_of_ble_eq_true rfl)
  obtain ⟨e0, wc, M, hall⟩ := hI
  obtain ⟨r, S1, hc1, r2, S2, hc2, hr2, hI2⟩ := zo_pillar (xs (nI (6 * t + 1)).toNatClampNeg) (xs (nI (6 * t + 2)).toNatClampNeg) S e0 wc M (100 * t) (by omega) hall
  subst hr2
  refine lv_aload_n hx hb dL_law_725 rfl (lv_at hl 2 rfl) ?_
  refine lv_aload_n hx hb dL_law_726 rfl (lv_at hl 3 rfl) ?_
  refine lv_iload_n hx hb dL_law_727 rfl (lv_at hl 0 rfl) ?_
  refine lv_iconst (v := 1) hx hb dL_law_728 (by decide) ?_
  refine lv_iadd hx hb dL_law_729 ?_
  refine sy_top (y := nI (6 * t + 1)) (by rw [show (1 : Int32) = nI 1 from rfl, nI_add]) ?_
  refine va_sld hx hb hX hbl hbA X.2.2.2 (i := nI (6 * t + 1)) (zz_in (by omega) (by omega)) dL_law_730 ?_
  refine lv_aload_n hx hb dL_law_731 rfl (lv_at hl 3 rfl) ?_
  refine lv_iload_n hx hb dL_law_732 rfl (lv_at hl 0 rfl) ?_
  refine lv_iconst (v := 2) hx hb dL_law_733 (by decide) ?_
  refine lv_iadd hx hb dL_law_734 ?_
  refine sy_top (y := nI (6 * t + 2)) (by rw [show (2 : Int32) = nI 2 from rfl, nI_add]) ?_
  refine va_sld hx hb hX hbl hbA X.2.2.2 (i := nI (6 * t + 2)) (zz_in (by omega) (by omega)) dL_law_735 ?_
  refine sy_vi (rest := []) fx hA X hl.1 (sy_OTop_o hT) (sy_en10 (sy_OTop_o hT).2) rfl (c_Top_pillar l hT hc1) cv_Top_pillar wm_955 ⟨Nat.le_of_ble_eq_true rfl, Nat.le_of_ble_eq_true rfl, hcr, hsr⟩ rfl rfl (Nat.le_of_ble_eq_true rfl) dL_law_736 (fun H locs X => ?_)
  refine lv_aload_n hx hb dL_law_739 rfl (lv_at hl 1 rfl) ?_
  refine lv_aload_n hx hb dL_law_740 rfl (lv_at hl 3 rfl) ?_
  refine lv_iload_n hx hb dL_law_741 rfl (lv_at hl 0 rfl) ?_
  refine lv_iconst (v := 1) hx hb dL_law_742 (by decide) ?_
  refine lv_iadd hx hb dL_law_743 ?_
  refine sy_top (y := nI (6 * t + 1)) (by rw [show (1 : Int32) = nI 1 from rfl, nI_add]) ?_
  refine va_sld hx hb hX hbl hbA X.2.2.2 (i := nI (6 * t + 1)) (zz_in (by omega) (by omega)) dL_law_744 ?_
  refine lv_aload_n hx hb dL_law_745 rfl (lv_at hl 3 rfl) ?_
  refine lv_iload_n hx hb dL_law_746 rfl (lv_at hl 0 rfl) ?_
  refine lv_iconst (v := 2) hx hb dL_law_747 (by decide) ?_
  refine lv_iadd hx hb dL_law_748 ?_
  refine sy_top (y := nI (6 * t + 2)) (by rw [show (2 : Int32) = nI 2 from rfl, nI_add]) ?_
  refine va_sld hx hb hX hbl hbA X.2.2.2 (i := nI (6 * t + 2)) (zz_in (by omega) (by omega)) dL_law_749 ?_
  refine sy_vi (rest := [.int r2]) fx hA X hl.1 (sy_OModel_o hM) (sy_en11 (sy_OModel_o hM).2) rfl (c_Model_pillar l hM hc2) cv_Model_pillar wm_964 ⟨Nat.le_of_ble_eq_true rfl, Nat.le_of_ble_eq_true rfl, hcr, hsr⟩ rfl rfl (Nat.le_of_ble_eq_true rfl) dL_law_750 (fun H locs X => ?_)
  refine lv_icmp_eq (tgt := 971) hx hb dL_law_753 (by decide) (fun _ => ?_) (fun q => absurd rfl q)
  exact kk S2 H locs X hI2
set_option maxRecDepth 100000 in
set_option maxHeartbeats 40000000 in
theorem lw_22_see (fx : CallFix p m c code 4 s args sy_W RL) (hA : ∀ q, s.heap.size ≤ q → A q) (hX : va_X b L xs s s.heap) (hbl : b < s.heap.size) (hbA : ¬ A b) (hT : sy_OTop E) (hM : sy_OModel E) (X : sy_Wd E A s S H locs) (hI : zi_Inv S (100 * t)) (ht : 6 * t + 6 ≤ L) (hL : L ≤ 384) (hl : lv_has ls 4 [(3, .int (nI (6 * t))), (2, .ref (sy_ad E 392)), (1, .ref (sy_ad E 0)), (0, .ref b)]) (hc : cells ≤ 1000) (hs : slots ≤ 100000)
    (kk : ∀ (S2 : sy_St) (H : Heap) (locs : List Loc), sy_Wd E A s S2 H locs → zi_Inv S2 (100 * t + 100) → W p l e room_1 s m args below meth c H locs cells slots Q (F0 m 971 ls [])) : W p l e room_1 s m args below meth c H locs cells slots Q (F0 m 758 ls []) := by
  have hx := fx.1
  have hb := fx.2.1
  have hcr : cells ≤ room_1.cells := Nat.le_trans hc (Nat.le_of_ble_eq_true rfl)
  have hsr : slots ≤ room_1.slots := Nat.le_trans hs (Nat.le_of_ble_eq_true rfl)
  obtain ⟨e0, wc, M, hall⟩ := hI
  obtain ⟨r, S1, hc1, r2, S2, hc2, hr2, hI2⟩ := zo_see (xs (nI (6 * t + 1)).toNatClampNeg) S e0 wc M (100 * t) (by omega) hall
  subst hr2
  refine lv_aload_n hx hb dL_law_758 rfl (lv_at hl 2 rfl) ?_
  refine lv_aload_n hx hb dL_law_759 rfl (lv_at hl 3 rfl) ?_
  refine lv_iload_n hx hb dL_law_760 rfl (lv_at hl 0 rfl) ?_
  refine lv_iconst (v := 1) hx hb dL_law_761 (by decide) ?_
  refine lv_iadd hx hb dL_law_762 ?_
  refine sy_top (y := nI (6 * t + 1)) (by rw [show (1 : Int32) = nI 1 from rfl, nI_add]) ?_
  refine va_sld hx hb hX hbl hbA X.2.2.2 (i := nI (6 * t + 1)) (zz_in (by omega) (by omega)) dL_law_763 ?_
  refine sy_vi (rest := []) fx hA X hl.1 (sy_OTop_o hT) (sy_en10 (sy_OTop_o hT).2) rfl (c_Top_see l hT hc1) cv_Top_see wm_968 ⟨Nat.le_of_ble_eq_true rfl, Nat.le_of_ble_eq_true rfl, hcr, hsr⟩ rfl rfl (Nat.le_of_ble_eq_true rfl) dL_law_764 (fun H locs X => ?_)
  refine lv_aload_n hx hb dL_law_767 rfl (lv_at hl 1 rfl) ?_
  refine lv_aload_n hx hb dL_law_768 rfl (lv_at hl 3 rfl) ?_
  refine lv_iload_n hx hb dL_law_769 rfl (lv_at hl 0 rfl) ?_
  refine lv_iconst (v := 1) hx hb dL_law_770 (by decide) ?_
  refine lv_iadd hx hb dL_law_771 ?_
  refine sy_top (y := nI (6 * t + 1)) (by rw [show (1 : Int32) = nI 1 from rfl, nI_add]) ?_
  refine va_sld hx hb hX hbl hbA X.2.2.2 (i := nI (6 * t + 1)) (zz_in (by omega) (by omega)) dL_law_772 ?_
  refine sy_vi (rest := [.int r2]) fx hA X hl.1 (sy_OModel_o hM) (sy_en11 (sy_OModel_o hM).2) rfl (c_Model_see l hM hc2) cv_Model_see wm_976 ⟨Nat.le_of_ble_eq_true rfl, Nat.le_of_ble_eq_true rfl, hcr, hsr⟩ rfl rfl (Nat.le_of_ble_eq_true rfl) dL_law_773 (fun H locs X => ?_)
  refine lv_icmp_eq (tgt := 971) hx hb dL_law_776 (by decide) (fun _ => ?_) (fun q => absurd rfl q)
  exact kk S2 H locs X hI2
set_option maxRecDepth 100000 in
set_option maxHeartbeats 40000000 in
theorem lw_23_who (fx : CallFix p m c code 4 s args sy_W RL) (hA : ∀ q, s.heap.size ≤ q → A q) (hX : va_X b L xs s s.heap) (hbl : b < s.heap.size) (hbA : ¬ A b) (hT : sy_OTop E) (hM : sy_OModel E) (X : sy_Wd E A s S H locs) (hI : zi_Inv S (100 * t)) (ht : 6 * t + 6 ≤ L) (hL : L ≤ 384) (hl : lv_has ls 4 [(3, .int (nI (6 * t))), (2, .ref (sy_ad E 392)), (1, .ref (sy_ad E 0)), (0, .ref b)]) (hc : cells ≤ 1000) (hs : slots ≤ 100000)
    (kk : ∀ (S2 : sy_St) (H : Heap) (locs : List Loc), sy_Wd E A s S2 H locs → zi_Inv S2 (100 * t + 100) → W p l e room_1 s m args below meth c H locs cells slots Q (F0 m 971 ls [])) : W p l e room_1 s m args below meth c H locs cells slots Q (F0 m 781 ls []) := by
  have hx := fx.1
  have hb := fx.2.1
  have hcr : cells ≤ room_1.cells := Nat.le_trans hc (Nat.le_of_ble_eq_true rfl)
  have hsr : slots ≤ room_1.slots := Nat.le_trans hs (Nat.le_of_ble_eq_true rfl)
  obtain ⟨e0, wc, M, hall⟩ := hI
  obtain ⟨r, S1, hc1, r2, S2, hc2, hr2, hI2⟩ := zo_who (xs (nI (6 * t + 1)).toNatClampNeg) S e0 wc M (100 * t) (by omega) hall
  subst hr2
  refine lv_aload_n hx hb dL_law_781 rfl (lv_at hl 2 rfl) ?_
  refine lv_aload_n hx hb dL_law_782 rfl (lv_at hl 3 rfl) ?_
  refine lv_iload_n hx hb dL_law_783 rfl (lv_at hl 0 rfl) ?_
  refine lv_iconst (v := 1) hx hb dL_law_784 (by decide) ?_
  refine lv_iadd hx hb dL_law_785 ?_
  refine sy_top (y := nI (6 * t + 1)) (by rw [show (1 : Int32) = nI 1 from rfl, nI_add]) ?_
  refine va_sld hx hb hX hbl hbA X.2.2.2 (i := nI (6 * t + 1)) (zz_in (by omega) (by omega)) dL_law_786 ?_
  refine sy_vi (rest := []) fx hA X hl.1 (sy_OTop_o hT) (sy_en10 (sy_OTop_o hT).2) rfl (c_Top_who l hT hc1) cv_Top_who wm_980 ⟨Nat.le_of_ble_eq_true rfl, Nat.le_of_ble_eq_true rfl, hcr, hsr⟩ rfl rfl (Nat.le_of_ble_eq_true rfl) dL_law_787 (fun H locs X => ?_)
  refine lv_aload_n hx hb dL_law_790 rfl (lv_at hl 1 rfl) ?_
  refine lv_aload_n hx hb dL_law_791 rfl (lv_at hl 3 rfl) ?_
  refine lv_iload_n hx hb dL_law_792 rfl (lv_at hl 0 rfl) ?_
  refine lv_iconst (v := 1) hx hb dL_law_793 (by decide) ?_
  refine lv_iadd hx hb dL_law_794 ?_
  refine sy_top (y := nI (6 * t + 1)) (by rw [show (1 : Int32) = nI 1 from rfl, nI_add]) ?_
  refine va_sld hx hb hX hbl hbA X.2.2.2 (i := nI (6 * t + 1)) (zz_in (by omega) (by omega)) dL_law_795 ?_
  refine sy_vi (rest := [.int r2]) fx hA X hl.1 (sy_OModel_o hM) (sy_en11 (sy_OModel_o hM).2) rfl (c_Model_who l hM hc2) cv_Model_who wm_998 ⟨Nat.le_of_ble_eq_true rfl, Nat.le_of_ble_eq_true rfl, hcr, hsr⟩ rfl rfl (Nat.le_of_ble_eq_true rfl) dL_law_796 (fun H locs X => ?_)
  refine lv_icmp_eq (tgt := 971) hx hb dL_law_799 (by decide) (fun _ => ?_) (fun q => absurd rfl q)
  exact kk S2 H locs X hI2
set_option maxRecDepth 100000 in
set_option maxHeartbeats 40000000 in
theorem lw_24_sure (fx : CallFix p m c code 4 s args sy_W RL) (hA : ∀ q, s.heap.size ≤ q → A q) (hX : va_X b L xs s s.heap) (hbl : b < s.heap.size) (hbA : ¬ A b) (hT : sy_OTop E) (hM : sy_OModel E) (X : sy_Wd E A s S H locs) (hI : zi_Inv S (100 * t)) (ht : 6 * t + 6 ≤ L) (hL : L ≤ 384) (hl : lv_has ls 4 [(3, .int (nI (6 * t))), (2, .ref (sy_ad E 392)), (1, .ref (sy_ad E 0)), (0, .ref b)]) (hc : cells ≤ 1000) (hs : slots ≤ 100000)
    (kk : ∀ (S2 : sy_St) (H : Heap) (locs : List Loc), sy_Wd E A s S2 H locs → zi_Inv S2 (100 * t + 100) → W p l e room_1 s m args below meth c H locs cells slots Q (F0 m 971 ls [])) : W p l e room_1 s m args below meth c H locs cells slots Q (F0 m 804 ls []) := by
  have hx := fx.1
  have hb := fx.2.1
  have hcr : cells ≤ room_1.cells := Nat.le_trans hc (Nat.le_of_ble_eq_true rfl)
  have hsr : slots ≤ room_1.slots := Nat.le_trans hs (Nat.le_of_ble_eq_true rfl)
  obtain ⟨e0, wc, M, hall⟩ := hI
  obtain ⟨r, S1, hc1, r2, S2, hc2, hr2, hI2⟩ := zo_sure S e0 wc M (100 * t) (by omega) hall
  subst hr2
  refine lv_aload_n hx hb dL_law_804 rfl (lv_at hl 2 rfl) ?_
  refine sy_vi (rest := []) fx hA X hl.1 (sy_OTop_o hT) (sy_en10 (sy_OTop_o hT).2) rfl (c_Top_sure l hT hc1) cv_Top_sure wm_1006 ⟨Nat.le_of_ble_eq_true rfl, Nat.le_of_ble_eq_true rfl, hcr, hsr⟩ rfl rfl (Nat.le_of_ble_eq_true rfl) dL_law_805 (fun H locs X => ?_)
  refine lv_aload_n hx hb dL_law_808 rfl (lv_at hl 1 rfl) ?_
  refine sy_vi (rest := [.int r2]) fx hA X hl.1 (sy_OModel_o hM) (sy_en11 (sy_OModel_o hM).2) rfl (c_Model_sure l hM hc2) cv_Model_sure wm_1011 ⟨Nat.le_of_ble_eq_true rfl, Nat.le_of_ble_eq_true rfl, hcr, hsr⟩ rfl rfl (Nat.le_of_ble_eq_true rfl) dL_law_809 (fun H locs X => ?_)
  refine lv_icmp_eq (tgt := 971) hx hb dL_law_812 (by decide) (fun _ => ?_) (fun q => absurd rfl q)
  exact kk S2 H locs X hI2
set_option maxRecDepth 100000 in
set_option maxHeartbeats 40000000 in
theorem lw_25_write (fx : CallFix p m c code 4 s args sy_W RL) (hA : ∀ q, s.heap.size ≤ q → A q) (hX : va_X b L xs s s.heap) (hbl : b < s.heap.size) (hbA : ¬ A b) (hT : sy_OTop E) (hM : sy_OModel E) (X : sy_Wd E A s S H locs) (hI : zi_Inv S (100 * t)) (ht : 6 * t + 6 ≤ L) (hL : L ≤ 384) (hl : lv_has ls 4 [(3, .int (nI (6 * t))), (2, .ref (sy_ad E 392)), (1, .ref (sy_ad E 0)), (0, .ref b)]) (hc : cells ≤ 1000) (hs : slots ≤ 100000)
    (kk : ∀ (S2 : sy_St) (H : Heap) (locs : List Loc), sy_Wd E A s S2 H locs → zi_Inv S2 (100 * t + 100) → W p l e room_1 s m args below meth c H locs cells slots Q (F0 m 971 ls [])) : W p l e room_1 s m args below meth c H locs cells slots Q (F0 m 817 ls []) := by
  have hx := fx.1
  have hb := fx.2.1
  have hcr : cells ≤ room_1.cells := Nat.le_trans hc (Nat.le_of_ble_eq_true rfl)
  have hsr : slots ≤ room_1.slots := Nat.le_trans hs (Nat.le_of_ble_eq_true rfl)
  obtain ⟨e0, wc, M, hall⟩ := hI
  obtain ⟨v, hv⟩ : ∃ v : Int32, v = if xs (nI (6 * t + 3)).toNatClampNeg = 0 then 0 else 1 := ⟨_, rfl⟩
  obtain ⟨r, S1, hc1, r2, S2, hc2, hr2, hI2⟩ := zo_write (xs (nI (6 * t + 1)).toNatClampNeg) (xs (nI (6 * t + 2)).toNatClampNeg) v (by rw [hv]; by_cases q : xs (nI (6 * t + 3)).toNatClampNeg = 0; exact Or.inl (if_pos q); exact Or.inr (if_neg q)) S e0 wc M (100 * t) (by omega) hall
  subst hr2
  refine lv_aload_n hx hb dL_law_817 rfl (lv_at hl 2 rfl) ?_
  refine lv_aload_n hx hb dL_law_818 rfl (lv_at hl 3 rfl) ?_
  refine lv_iload_n hx hb dL_law_819 rfl (lv_at hl 0 rfl) ?_
  refine lv_iconst (v := 1) hx hb dL_law_820 (by decide) ?_
  refine lv_iadd hx hb dL_law_821 ?_
  refine sy_top (y := nI (6 * t + 1)) (by rw [show (1 : Int32) = nI 1 from rfl, nI_add]) ?_
  refine va_sld hx hb hX hbl hbA X.2.2.2 (i := nI (6 * t + 1)) (zz_in (by omega) (by omega)) dL_law_822 ?_
  refine lv_aload_n hx hb dL_law_823 rfl (lv_at hl 3 rfl) ?_
  refine lv_iload_n hx hb dL_law_824 rfl (lv_at hl 0 rfl) ?_
  refine lv_iconst (v := 2) hx hb dL_law_825 (by decide) ?_
  refine lv_iadd hx hb dL_law_826 ?_
  refine sy_top (y := nI (6 * t + 2)) (by rw [show (2 : Int32) = nI 2 from rfl, nI_add]) ?_
  refine va_sld hx hb hX hbl hbA X.2.2.2 (i := nI (6 * t + 2)) (zz_in (by omega) (by omega)) dL_law_827 ?_
  refine lv_aload_n hx hb dL_law_828 rfl (lv_at hl 3 rfl) ?_
  refine lv_iload_n hx hb dL_law_829 rfl (lv_at hl 0 rfl) ?_
  refine lv_iconst (v := 3) hx hb dL_law_830 (by decide) ?_
  refine lv_iadd hx hb dL_law_831 ?_
  refine sy_top (y := nI (6 * t + 3)) (by rw [show (3 : Int32) = nI 3 from rfl, nI_add]) ?_
  refine va_sld hx hb hX hbl hbA X.2.2.2 (i := nI (6 * t + 3)) (zz_in (by omega) (by omega)) dL_law_832 ?_
  have K0 : W p l e room_1 s m args below meth c H locs cells slots Q (F0 m 841 ls (.int v :: .int (xs (nI (6 * t + 2)).toNatClampNeg) :: .int (xs (nI (6 * t + 1)).toNatClampNeg) :: .ref (sy_ad E 0) :: [])) → W p l e room_1 s m args below meth c H locs cells slots Q (F0 m 833 ls (.int (xs (nI (6 * t + 3)).toNatClampNeg) :: .int (xs (nI (6 * t + 2)).toNatClampNeg) :: .int (xs (nI (6 * t + 1)).toNatClampNeg) :: .ref (sy_ad E 0) :: [])) := by
    intro kend
    refine lv_if_eq (tgt := 840) hx hb dL_law_833 (by decide) (fun q => ?_) (fun q => ?_)
    · refine lv_iconst (v := 0) hx hb dL_law_840 (by decide) ?_
      rw [hv, if_pos q] at kend
      exact kend
    · refine lv_iconst (v := 1) hx hb dL_law_836 (by decide) ?_
      refine lv_goto (tgt := 841) hx hb dL_law_837 (by decide) ?_
      rw [hv, if_neg q] at kend
      exact kend
  refine K0 ?_
  refine sy_vi (rest := []) fx hA X hl.1 (sy_OTop_o hT) (sy_en10 (sy_OTop_o hT).2) rfl (c_Top_write l hT hc1) cv_Top_write wm_1015 ⟨Nat.le_of_ble_eq_true rfl, Nat.le_of_ble_eq_true rfl, hcr, hsr⟩ rfl rfl (Nat.le_of_ble_eq_true rfl) dL_law_841 (fun H locs X => ?_)
  refine lv_aload_n hx hb dL_law_844 rfl (lv_at hl 1 rfl) ?_
  refine lv_aload_n hx hb dL_law_845 rfl (lv_at hl 3 rfl) ?_
  refine lv_iload_n hx hb dL_law_846 rfl (lv_at hl 0 rfl) ?_
  refine lv_iconst (v := 1) hx hb dL_law_847 (by decide) ?_
  refine lv_iadd hx hb dL_law_848 ?_
  refine sy_top (y := nI (6 * t + 1)) (by rw [show (1 : Int32) = nI 1 from rfl, nI_add]) ?_
  refine va_sld hx hb hX hbl hbA X.2.2.2 (i := nI (6 * t + 1)) (zz_in (by omega) (by omega)) dL_law_849 ?_
  refine lv_aload_n hx hb dL_law_850 rfl (lv_at hl 3 rfl) ?_
  refine lv_iload_n hx hb dL_law_851 rfl (lv_at hl 0 rfl) ?_
  refine lv_iconst (v := 2) hx hb dL_law_852 (by decide) ?_
  refine lv_iadd hx hb dL_law_853 ?_
  refine sy_top (y := nI (6 * t + 2)) (by rw [show (2 : Int32) = nI 2 from rfl, nI_add]) ?_
  refine va_sld hx hb hX hbl hbA X.2.2.2 (i := nI (6 * t + 2)) (zz_in (by omega) (by omega)) dL_law_854 ?_
  refine lv_aload_n hx hb dL_law_855 rfl (lv_at hl 3 rfl) ?_
  refine lv_iload_n hx hb dL_law_856 rfl (lv_at hl 0 rfl) ?_
  refine lv_iconst (v := 3) hx hb dL_law_857 (by decide) ?_
  refine lv_iadd hx hb dL_law_858 ?_
  refine sy_top (y := nI (6 * t + 3)) (by rw [show (3 : Int32) = nI 3 from rfl, nI_add]) ?_
  refine va_sld hx hb hX hbl hbA X.2.2.2 (i := nI (6 * t + 3)) (zz_in (by omega) (by omega)) dL_law_859 ?_
  have K1 : W p l e room_1 s m args below meth c H locs cells slots Q (F0 m 868 ls (.int v :: .int (xs (nI (6 * t + 2)).toNatClampNeg) :: .int (xs (nI (6 * t + 1)).toNatClampNeg) :: .ref (sy_ad E 392) :: [.int r2])) → W p l e room_1 s m args below meth c H locs cells slots Q (F0 m 860 ls (.int (xs (nI (6 * t + 3)).toNatClampNeg) :: .int (xs (nI (6 * t + 2)).toNatClampNeg) :: .int (xs (nI (6 * t + 1)).toNatClampNeg) :: .ref (sy_ad E 392) :: [.int r2])) := by
    intro kend
    refine lv_if_eq (tgt := 867) hx hb dL_law_860 (by decide) (fun q => ?_) (fun q => ?_)
    · refine lv_iconst (v := 0) hx hb dL_law_867 (by decide) ?_
      rw [hv, if_pos q] at kend
      exact kend
    · refine lv_iconst (v := 1) hx hb dL_law_863 (by decide) ?_
      refine lv_goto (tgt := 868) hx hb dL_law_864 (by decide) ?_
      rw [hv, if_neg q] at kend
      exact kend
  refine K1 ?_
  refine sy_vi (rest := [.int r2]) fx hA X hl.1 (sy_OModel_o hM) (sy_en11 (sy_OModel_o hM).2) rfl (c_Model_write l hM hc2) cv_Model_write wm_1023 ⟨Nat.le_of_ble_eq_true rfl, Nat.le_of_ble_eq_true rfl, hcr, hsr⟩ rfl rfl (Nat.le_of_ble_eq_true rfl) dL_law_868 (fun H locs X => ?_)
  refine lv_icmp_eq (tgt := 971) hx hb dL_law_871 (by decide) (fun _ => ?_) (fun q => absurd rfl q)
  exact kk S2 H locs X hI2
set_option maxRecDepth 100000 in
set_option maxHeartbeats 40000000 in
theorem lw_26_judge (fx : CallFix p m c code 4 s args sy_W RL) (hA : ∀ q, s.heap.size ≤ q → A q) (hX : va_X b L xs s s.heap) (hbl : b < s.heap.size) (hbA : ¬ A b) (hT : sy_OTop E) (hM : sy_OModel E) (X : sy_Wd E A s S H locs) (hI : zi_Inv S (100 * t)) (ht : 6 * t + 6 ≤ L) (hL : L ≤ 384) (hl : lv_has ls 4 [(3, .int (nI (6 * t))), (2, .ref (sy_ad E 392)), (1, .ref (sy_ad E 0)), (0, .ref b)]) (hc : cells ≤ 1000) (hs : slots ≤ 100000)
    (kk : ∀ (S2 : sy_St) (H : Heap) (locs : List Loc), sy_Wd E A s S2 H locs → zi_Inv S2 (100 * t + 100) → W p l e room_1 s m args below meth c H locs cells slots Q (F0 m 971 ls [])) : W p l e room_1 s m args below meth c H locs cells slots Q (F0 m 876 ls []) := by
  have hx := fx.1
  have hb := fx.2.1
  have hcr : cells ≤ room_1.cells := Nat.le_trans hc (Nat.le_of_ble_eq_true rfl)
  have hsr : slots ≤ room_1.slots := Nat.le_trans hs (Nat.le_of_ble_eq_true rfl)
  obtain ⟨e0, wc, M, hall⟩ := hI
  obtain ⟨r, S1, hc1, r2, S2, hc2, hr2, hI2⟩ := zo_judge S e0 wc M (100 * t) (by omega) hall
  subst hr2
  refine lv_aload_n hx hb dL_law_876 rfl (lv_at hl 2 rfl) ?_
  refine sy_vi (rest := []) fx hA X hl.1 (sy_OTop_o hT) (sy_en10 (sy_OTop_o hT).2) rfl (c_Top_judge l hT hc1) cv_Top_judge wm_1027 ⟨Nat.le_of_ble_eq_true rfl, Nat.le_of_ble_eq_true rfl, hcr, hsr⟩ rfl rfl (Nat.le_of_ble_eq_true rfl) dL_law_877 (fun H locs X => ?_)
  refine lv_aload_n hx hb dL_law_880 rfl (lv_at hl 1 rfl) ?_
  refine sy_vi (rest := [.int r2]) fx hA X hl.1 (sy_OModel_o hM) (sy_en11 (sy_OModel_o hM).2) rfl (c_Model_judge l hM hc2) cv_Model_judge wm_1037 ⟨Nat.le_of_ble_eq_true rfl, Nat.le_of_ble_eq_true rfl, hcr, hsr⟩ rfl rfl (Nat.le_of_ble_eq_true rfl) dL_law_881 (fun H locs X => ?_)
  refine lv_icmp_eq (tgt := 971) hx hb dL_law_884 (by decide) (fun _ => ?_) (fun q => absurd rfl q)
  exact kk S2 H locs X hI2
set_option maxRecDepth 100000 in
set_option maxHeartbeats 40000000 in
theorem lw_27_tear (fx : CallFix p m c code 4 s args sy_W RL) (hA : ∀ q, s.heap.size ≤ q → A q) (hX : va_X b L xs s s.heap) (hbl : b < s.heap.size) (hbA : ¬ A b) (hT : sy_OTop E) (hM : sy_OModel E) (X : sy_Wd E A s S H locs) (hI : zi_Inv S (100 * t)) (ht : 6 * t + 6 ≤ L) (hL : L ≤ 384) (hl : lv_has ls 4 [(3, .int (nI (6 * t))), (2, .ref (sy_ad E 392)), (1, .ref (sy_ad E 0)), (0, .ref b)]) (hc : cells ≤ 1000) (hs : slots ≤ 100000)
    (kk : ∀ (S2 : sy_St) (H : Heap) (locs : List Loc), sy_Wd E A s S2 H locs → zi_Inv S2 (100 * t + 100) → W p l e room_1 s m args below meth c H locs cells slots Q (F0 m 971 ls [])) : W p l e room_1 s m args below meth c H locs cells slots Q (F0 m 889 ls []) := by
  have hx := fx.1
  have hb := fx.2.1
  have hcr : cells ≤ room_1.cells := Nat.le_trans hc (Nat.le_of_ble_eq_true rfl)
  have hsr : slots ≤ room_1.slots := Nat.le_trans hs (Nat.le_of_ble_eq_true rfl)
  obtain ⟨e0, wc, M, hall⟩ := hI
  obtain ⟨r, S1, hc1, r2, S2, hc2, hr2, hI2⟩ := zo_tear S e0 wc M (100 * t) (by omega) hall
  subst hr2
  refine lv_aload_n hx hb dL_law_889 rfl (lv_at hl 2 rfl) ?_
  refine sy_vi (rest := []) fx hA X hl.1 (sy_OTop_o hT) (sy_en10 (sy_OTop_o hT).2) rfl (c_Top_tear l hT hc1) cv_Top_tear wm_1041 ⟨Nat.le_of_ble_eq_true rfl, Nat.le_of_ble_eq_true rfl, hcr, hsr⟩ rfl rfl (Nat.le_of_ble_eq_true rfl) dL_law_890 (fun H locs X => ?_)
  refine lv_aload_n hx hb dL_law_893 rfl (lv_at hl 1 rfl) ?_
  refine sy_vi (rest := [.int r2]) fx hA X hl.1 (sy_OModel_o hM) (sy_en11 (sy_OModel_o hM).2) rfl (c_Model_tear l hM hc2) cv_Model_tear wm_1045 ⟨Nat.le_of_ble_eq_true rfl, Nat.le_of_ble_eq_true rfl, hcr, hsr⟩ rfl rfl (Nat.le_of_ble_eq_true rfl) dL_law_894 (fun H locs X => ?_)
  refine lv_icmp_eq (tgt := 971) hx hb dL_law_897 (by decide) (fun _ => ?_) (fun q => absurd rfl q)
  exact kk S2 H locs X hI2
set_option maxRecDepth 100000 in
set_option maxHeartbeats 40000000 in
theorem lw_28_seed (fx : CallFix p m c code 4 s args sy_W RL) (hA : ∀ q, s.heap.size ≤ q → A q) (hX : va_X b L xs s s.heap) (hbl : b < s.heap.size) (hbA : ¬ A b) (hT : sy_OTop E) (hM : sy_OModel E) (X : sy_Wd E A s S H locs) (hI : zi_Inv S (100 * t)) (ht : 6 * t + 6 ≤ L) (hL : L ≤ 384) (hl : lv_has ls 4 [(3, .int (nI (6 * t))), (2, .ref (sy_ad E 392)), (1, .ref (sy_ad E 0)), (0, .ref b)]) (hc : cells ≤ 1000) (hs : slots ≤ 100000)
    (kk : ∀ (S2 : sy_St) (H : Heap) (locs : List Loc), sy_Wd E A s S2 H locs → zi_Inv S2 (100 * t + 100) → W p l e room_1 s m args below meth c H locs cells slots Q (F0 m 971 ls [])) : W p l e room_1 s m args below meth c H locs cells slots Q (F0 m 902 ls []) := by
  have hx := fx.1
  have hb := fx.2.1
  have hcr : cells ≤ room_1.cells := Nat.le_trans hc (Nat.le_of_ble_eq_true rfl)
  have hsr : slots ≤ room_1.slots := Nat.le_trans hs (Nat.le_of_ble_eq_true rfl)
  obtain ⟨e0, wc, M, hall⟩ := hI
  obtain ⟨r, S1, hc1, r2, S2, hc2, hr2, hI2⟩ := zo_seed (xs (nI (6 * t + 1)).toNatClampNeg) S e0 wc M (100 * t) (by omega) hall
  subst hr2
  refine lv_aload_n hx hb dL_law_902 rfl (lv_at hl 2 rfl) ?_
  refine lv_aload_n hx hb dL_law_903 rfl (lv_at hl 3 rfl) ?_
  refine lv_iload_n hx hb dL_law_904 rfl (lv_at hl 0 rfl) ?_
  refine lv_iconst (v := 1) hx hb dL_law_905 (by decide) ?_
  refine lv_iadd hx hb dL_law_906 ?_
  refine sy_top (y := nI (6 * t + 1)) (by rw [show (1 : Int32) = nI 1 from rfl, nI_add]) ?_
  refine va_sld hx hb hX hbl hbA X.2.2.2 (i := nI (6 * t + 1)) (zz_in (by omega) (by omega)) dL_law_907 ?_
  refine sy_vi (rest := []) fx hA X hl.1 (sy_OTop_o hT) (sy_en10 (sy_OTop_o hT).2) rfl (c_Top_seed l hT hc1) cv_Top_seed wm_1049 ⟨Nat.le_of_ble_eq_true rfl, Nat.le_of_ble_eq_true rfl, hcr, hsr⟩ rfl rfl (Nat.le_of_ble_eq_true rfl) dL_law_908 (fun H locs X => ?_)
  refine lv_aload_n hx hb dL_law_911 rfl (lv_at hl 1 rfl) ?_
  refine lv_aload_n hx hb dL_law_912 rfl (lv_at hl 3 rfl) ?_
  refine lv_iload_n hx hb dL_law_913 rfl (lv_at hl 0 rfl) ?_
  refine lv_iconst (v := 1) hx hb dL_law_914 (by decide) ?_
  refine lv_iadd hx hb dL_law_915 ?_
  refine sy_top (y := nI (6 * t + 1)) (by rw [show (1 : Int32) = nI 1 from rfl, nI_add]) ?_
  refine va_sld hx hb hX hbl hbA X.2.2.2 (i := nI (6 * t + 1)) (zz_in (by omega) (by omega)) dL_law_916 ?_
  refine sy_vi (rest := [.int r2]) fx hA X hl.1 (sy_OModel_o hM) (sy_en11 (sy_OModel_o hM).2) rfl (c_Model_seed l hM hc2) cv_Model_seed wm_1053 ⟨Nat.le_of_ble_eq_true rfl, Nat.le_of_ble_eq_true rfl, hcr, hsr⟩ rfl rfl (Nat.le_of_ble_eq_true rfl) dL_law_917 (fun H locs X => ?_)
  refine lv_icmp_eq (tgt := 971) hx hb dL_law_920 (by decide) (fun _ => ?_) (fun q => absurd rfl q)
  exact kk S2 H locs X hI2
set_option maxRecDepth 100000 in
set_option maxHeartbeats 40000000 in
theorem lw_29_keep (fx : CallFix p m c code 4 s args sy_W RL) (hA : ∀ q, s.heap.size ≤ q → A q) (hX : va_X b L xs s s.heap) (hbl : b < s.heap.size) (hbA : ¬ A b) (hT : sy_OTop E) (hM : sy_OModel E) (X : sy_Wd E A s S H locs) (hI : zi_Inv S (100 * t)) (ht : 6 * t + 6 ≤ L) (hL : L ≤ 384) (hl : lv_has ls 4 [(3, .int (nI (6 * t))), (2, .ref (sy_ad E 392)), (1, .ref (sy_ad E 0)), (0, .ref b)]) (hc : cells ≤ 1000) (hs : slots ≤ 100000)
    (kk : ∀ (S2 : sy_St) (H : Heap) (locs : List Loc), sy_Wd E A s S2 H locs → zi_Inv S2 (100 * t + 100) → W p l e room_1 s m args below meth c H locs cells slots Q (F0 m 971 ls [])) : W p l e room_1 s m args below meth c H locs cells slots Q (F0 m 925 ls []) := by
  have hx := fx.1
  have hb := fx.2.1
  have hcr : cells ≤ room_1.cells := Nat.le_trans hc (Nat.le_of_ble_eq_true rfl)
  have hsr : slots ≤ room_1.slots := Nat.le_trans hs (Nat.le_of_ble_eq_true rfl)
  obtain ⟨e0, wc, M, hall⟩ := hI
  obtain ⟨r, S1, hc1, r2, S2, hc2, hr2, hI2⟩ := zo_keep (xs (nI (6 * t + 1)).toNatClampNeg) S e0 wc M (100 * t) (by omega) hall
  subst hr2
  refine lv_aload_n hx hb dL_law_925 rfl (lv_at hl 2 rfl) ?_
  refine lv_aload_n hx hb dL_law_926 rfl (lv_at hl 3 rfl) ?_
  refine lv_iload_n hx hb dL_law_927 rfl (lv_at hl 0 rfl) ?_
  refine lv_iconst (v := 1) hx hb dL_law_928 (by decide) ?_
  refine lv_iadd hx hb dL_law_929 ?_
  refine sy_top (y := nI (6 * t + 1)) (by rw [show (1 : Int32) = nI 1 from rfl, nI_add]) ?_
  refine va_sld hx hb hX hbl hbA X.2.2.2 (i := nI (6 * t + 1)) (zz_in (by omega) (by omega)) dL_law_930 ?_
  refine sy_vi (rest := []) fx hA X hl.1 (sy_OTop_o hT) (sy_en10 (sy_OTop_o hT).2) rfl (c_Top_keep l hT hc1) cv_Top_keep wm_1057 ⟨Nat.le_of_ble_eq_true rfl, Nat.le_of_ble_eq_true rfl, hcr, hsr⟩ rfl rfl (Nat.le_of_ble_eq_true rfl) dL_law_931 (fun H locs X => ?_)
  refine lv_aload_n hx hb dL_law_934 rfl (lv_at hl 1 rfl) ?_
  refine lv_aload_n hx hb dL_law_935 rfl (lv_at hl 3 rfl) ?_
  refine lv_iload_n hx hb dL_law_936 rfl (lv_at hl 0 rfl) ?_
  refine lv_iconst (v := 1) hx hb dL_law_937 (by decide) ?_
  refine lv_iadd hx hb dL_law_938 ?_
  refine sy_top (y := nI (6 * t + 1)) (by rw [show (1 : Int32) = nI 1 from rfl, nI_add]) ?_
  refine va_sld hx hb hX hbl hbA X.2.2.2 (i := nI (6 * t + 1)) (zz_in (by omega) (by omega)) dL_law_939 ?_
  refine sy_vi (rest := [.int r2]) fx hA X hl.1 (sy_OModel_o hM) (sy_en11 (sy_OModel_o hM).2) rfl (c_Model_keep l hM hc2) cv_Model_keep wm_1064 ⟨Nat.le_of_ble_eq_true rfl, Nat.le_of_ble_eq_true rfl, hcr, hsr⟩ rfl rfl (Nat.le_of_ble_eq_true rfl) dL_law_940 (fun H locs X => ?_)
  refine lv_icmp_eq (tgt := 971) hx hb dL_law_943 (by decide) (fun _ => ?_) (fun q => absurd rfl q)
  exact kk S2 H locs X hI2
set_option maxRecDepth 100000 in
set_option maxHeartbeats 40000000 in
theorem lw_30_goBack (fx : CallFix p m c code 4 s args sy_W RL) (hA : ∀ q, s.heap.size ≤ q → A q) (hX : va_X b L xs s s.heap) (hbl : b < s.heap.size) (hbA : ¬ A b) (hT : sy_OTop E) (hM : sy_OModel E) (X : sy_Wd E A s S H locs) (hI : zi_Inv S (100 * t)) (ht : 6 * t + 6 ≤ L) (hL : L ≤ 384) (hl : lv_has ls 4 [(3, .int (nI (6 * t))), (2, .ref (sy_ad E 392)), (1, .ref (sy_ad E 0)), (0, .ref b)]) (hc : cells ≤ 1000) (hs : slots ≤ 100000)
    (kk : ∀ (S2 : sy_St) (H : Heap) (locs : List Loc), sy_Wd E A s S2 H locs → zi_Inv S2 (100 * t + 100) → W p l e room_1 s m args below meth c H locs cells slots Q (F0 m 971 ls [])) : W p l e room_1 s m args below meth c H locs cells slots Q (F0 m 948 ls []) := by
  have hx := fx.1
  have hb := fx.2.1
  have hcr : cells ≤ room_1.cells := Nat.le_trans hc (Nat.le_of_ble_eq_true rfl)
  have hsr : slots ≤ room_1.slots := Nat.le_trans hs (Nat.le_of_ble_eq_true rfl)
  obtain ⟨e0, wc, M, hall⟩ := hI
  obtain ⟨r, S1, hc1, r2, S2, hc2, hr2, hI2⟩ := zo_goBack (xs (nI (6 * t + 1)).toNatClampNeg) S e0 wc M (100 * t) (by omega) hall
  subst hr2
  refine lv_aload_n hx hb dL_law_948 rfl (lv_at hl 2 rfl) ?_
  refine lv_aload_n hx hb dL_law_949 rfl (lv_at hl 3 rfl) ?_
  refine lv_iload_n hx hb dL_law_950 rfl (lv_at hl 0 rfl) ?_
  refine lv_iconst (v := 1) hx hb dL_law_951 (by decide) ?_
  refine lv_iadd hx hb dL_law_952 ?_
  refine sy_top (y := nI (6 * t + 1)) (by rw [show (1 : Int32) = nI 1 from rfl, nI_add]) ?_
  refine va_sld hx hb hX hbl hbA X.2.2.2 (i := nI (6 * t + 1)) (zz_in (by omega) (by omega)) dL_law_953 ?_
  refine sy_vi (rest := []) fx hA X hl.1 (sy_OTop_o hT) (sy_en10 (sy_OTop_o hT).2) rfl (c_Top_goBack l hT hc1) cv_Top_goBack wm_1068 ⟨Nat.le_of_ble_eq_true rfl, Nat.le_of_ble_eq_true rfl, hcr, hsr⟩ rfl rfl (Nat.le_of_ble_eq_true rfl) dL_law_954 (fun H locs X => ?_)
  refine lv_aload_n hx hb dL_law_957 rfl (lv_at hl 1 rfl) ?_
  refine lv_aload_n hx hb dL_law_958 rfl (lv_at hl 3 rfl) ?_
  refine lv_iload_n hx hb dL_law_959 rfl (lv_at hl 0 rfl) ?_
  refine lv_iconst (v := 1) hx hb dL_law_960 (by decide) ?_
  refine lv_iadd hx hb dL_law_961 ?_
  refine sy_top (y := nI (6 * t + 1)) (by rw [show (1 : Int32) = nI 1 from rfl, nI_add]) ?_
  refine va_sld hx hb hX hbl hbA X.2.2.2 (i := nI (6 * t + 1)) (zz_in (by omega) (by omega)) dL_law_962 ?_
  refine sy_vi (rest := [.int r2]) fx hA X hl.1 (sy_OModel_o hM) (sy_en11 (sy_OModel_o hM).2) rfl (c_Model_goBack l hM hc2) cv_Model_goBack wm_1072 ⟨Nat.le_of_ble_eq_true rfl, Nat.le_of_ble_eq_true rfl, hcr, hsr⟩ rfl rfl (Nat.le_of_ble_eq_true rfl) dL_law_963 (fun H locs X => ?_)
  refine lv_icmp_eq (tgt := 971) hx hb dL_law_966 (by decide) (fun _ => ?_) (fun q => absurd rfl q)
  exact kk S2 H locs X hI2
end LAWC
