/-! ===== the law's loop ===== -/
theorem lw_sw (x : Int32) : ∃ k : Nat, k < 32 ∧ x &&& 31 = nI k := by
  obtain ⟨j, h1, h2⟩ := pk_andE x (m := 31) 5 rfl
  exact ⟨j, h1, h2⟩
set_option maxRecDepth 100000 in
set_option maxHeartbeats 40000000 in
theorem lw_loop {p : Program} {l : Launch} {e : Env} {s : State} {m : MethodId} {below : List Frame} {meth : Method} {c : Code} {A : Nat → Prop} {E : sy_ET} {b L : Nat} {xs : Nat → Int32} {cells slots : Nat} (fx : CallFix p m c code 4 s #[Value.ref b] sy_W RL) (hr : meth.sig.returnType = ret) (hlk : meth.locks = false) (hA : ∀ q, s.heap.size ≤ q → A q) (hAe : ∀ q, A q → s.heap.size ≤ q) (hX : va_X b L xs s s.heap) (hbl : b < s.heap.size) (hT : sy_OTop E) (hM : sy_OModel E) (hL : L ≤ 384) (hc : cells ≤ 1000) (hs : slots ≤ 100000) :
    ∀ (d t : Nat), L ≤ 6 * (t + d) → ∀ (S : sy_St) (H : Heap) (locs : List Loc) (ls : Array Slot), sy_Wd E A s S H locs → zi_Inv S (100 * t) → lv_has ls 4 [(3, .int (nI (6 * t))), (2, .ref (sy_ad E 392)), (1, .ref (sy_ad E 0)), (0, .ref b)] → 6 * t ≤ 384 + 6 → W p l e room_1 s m #[Value.ref b] below meth c H locs cells slots (lw_Z below #[Value.ref b] s) (F0 m 18 ls []) := by
  have hx := fx.1
  have hb := fx.2.1
  have hbA : ¬ A b := fun q => by have := hAe b q; omega
  have hend : ∀ (S : sy_St) (H : Heap) (locs : List Loc) (ls : Array Slot), sy_Wd E A s S H locs → W p l e room_1 s m #[Value.ref b] below meth c H locs cells slots (lw_Z below #[Value.ref b] s) (F0 m 977 ls []) := by
    intro S H locs ls X
    refine lv_iconst (v := 1) hx hb dL_law_977 (by decide) ?_
    refine va_forget (fun q hq => hAe _ (X.2.2.2.2.2 q hq)) ?_
    refine W.widen (k := 600000) (n := 7302250) (Nat.le_trans hc (Nat.le_of_ble_eq_true rfl)) (Nat.le_trans hs (Nat.le_of_ble_eq_true rfl)) ?_
    exact lw_ret hx hb hr hlk dL_law_978
  intro d
  induction d with
  | zero =>
    intro t hd S H locs ls X hI hl ht
    refine lv_iload_n hx hb dL_law_18 rfl (lv_at hl 0 rfl) ?_
    refine lv_aload_n hx hb dL_law_19 rfl (lv_at hl 3 rfl) ?_
    refine va_slen hx hb hX hbl hbA X.2.2.2 dL_law_20 ?_
    refine lv_bipush (v := 6) hx hb dL_law_21 (by decide) ?_
    refine lv_isub hx hb dL_law_23 ?_
    refine lv_icmp_gt (tgt := 977) hx hb dL_law_24 (by decide) (fun q => hend S H locs ls X) (fun q => absurd ?_ q)
    show nI L - nI 6 < nI (6 * t)
    rw [Int32.lt_iff_toInt_lt, pk_sub_toInt (by omega) (by omega), nI_toInt (by omega)]
    omega
  | succ d ih =>
    intro t hd S H locs ls X hI hl ht
    refine lv_iload_n hx hb dL_law_18 rfl (lv_at hl 0 rfl) ?_
    refine lv_aload_n hx hb dL_law_19 rfl (lv_at hl 3 rfl) ?_
    refine va_slen hx hb hX hbl hbA X.2.2.2 dL_law_20 ?_
    refine lv_bipush (v := 6) hx hb dL_law_21 (by decide) ?_
    refine lv_isub hx hb dL_law_23 ?_
    refine lv_icmp_gt (tgt := 977) hx hb dL_law_24 (by decide) (fun q => hend S H locs ls X) (fun q => ?_)
    have hle : 6 * t + 6 ≤ L := by
      have q : ¬ nI L - nI 6 < nI (6 * t) := q
      rw [Int32.lt_iff_toInt_lt, pk_sub_toInt (by omega) (by omega), nI_toInt (by omega)] at q
      omega
    have hk : ∀ (S2 : sy_St) (H : Heap) (locs : List Loc), sy_Wd E A s S2 H locs → zi_Inv S2 (100 * t + 100) → W p l e room_1 s m #[Value.ref b] below meth c H locs cells slots (lw_Z below #[Value.ref b] s) (F0 m 971 ls []) := by
      intro S2 H locs X hI
      refine lv_iinc (v := nI (6 * (t + 1))) (lv' := [(3, .int (nI (6 * (t + 1)))), (2, .ref (sy_ad E 392)), (1, .ref (sy_ad E 0)), (0, .ref b)]) hx hb dL_law_971 hl (k := 0) rfl (by show nI (6 * t) + nI 6 = _; rw [nI_add]; rfl) (by decide) rfl (fun ls hl => ?_)
      refine lv_goto (tgt := 18) hx hb dL_law_974 (by decide) ?_
      exact ih (t + 1) (by omega) S2 H locs ls X (by rw [show 100 * (t + 1) = 100 * t + 100 by omega]; exact hI) hl (by omega)
    refine lv_aload_n hx hb dL_law_27 rfl (lv_at hl 3 rfl) ?_
    refine lv_iload_n hx hb dL_law_28 rfl (lv_at hl 0 rfl) ?_
    refine va_sld hx hb hX hbl hbA X.2.2.2 (i := nI (6 * t)) (zz_in (by omega) (by omega)) dL_law_29 ?_
    refine lv_bipush (v := 31) hx hb dL_law_30 (by decide) ?_
    refine lv_iand hx hb dL_law_32 ?_
    obtain ⟨k, hk32, hkv⟩ := lw_sw (xs (nI (6 * t)).toNatClampNeg)
    rw [hkv]
    have hkk : 100 * t + 100 ≤ 100 * (t + 1) := by omega
    have hcase : k = 0 ∨ k = 1 ∨ k = 2 ∨ k = 3 ∨ k = 4 ∨ k = 5 ∨ k = 6 ∨ k = 7 ∨ k = 8 ∨ k = 9 ∨ k = 10 ∨ k = 11 ∨ k = 12 ∨ k = 13 ∨ k = 14 ∨ k = 15 ∨ k = 16 ∨ k = 17 ∨ k = 18 ∨ k = 19 ∨ k = 20 ∨ k = 21 ∨ k = 22 ∨ k = 23 ∨ k = 24 ∨ k = 25 ∨ k = 26 ∨ k = 27 ∨ k = 28 ∨ k = 29 ∨ k = 30 ∨ k = 31 := by omega
    rcases hcase with rfl | rfl | rfl | rfl | rfl | rfl | rfl | rfl | rfl | rfl | rfl | rfl | rfl | rfl | rfl | rfl | rfl | rfl | rfl | rfl | rfl | rfl | rfl | rfl | rfl | rfl | rfl | rfl | rfl | rfl | rfl | rfl
    · refine lv_tableIn (off := 139) (tgt := 172) hx hb dL_law_33 (by decide) (by decide) (by decide) (by decide) ?_
      exact lw_0_feed fx hA hX hbl hbA hT hM X hI hle hL hl hc hs hk
    · refine lv_tableIn (off := 162) (tgt := 195) hx hb dL_law_33 (by decide) (by decide) (by decide) (by decide) ?_
      exact lw_1_edge fx hA hX hbl hbA hT hM X hI hle hL hl hc hs hk
    · refine lv_tableIn (off := 175) (tgt := 208) hx hb dL_law_33 (by decide) (by decide) (by decide) (by decide) ?_
      exact lw_2_fault fx hA hX hbl hbA hT hM X hI hle hL hl hc hs hk
    · refine lv_tableIn (off := 188) (tgt := 221) hx hb dL_law_33 (by decide) (by decide) (by decide) (by decide) ?_
      exact lw_3_told fx hA hX hbl hbA hT hM X hI hle hL hl hc hs hk
    · refine lv_tableIn (off := 211) (tgt := 244) hx hb dL_law_33 (by decide) (by decide) (by decide) (by decide) ?_
      exact lw_4_person fx hA hX hbl hbA hT hM X hI hle hL hl hc hs hk
    · refine lv_tableIn (off := 244) (tgt := 277) hx hb dL_law_33 (by decide) (by decide) (by decide) (by decide) ?_
      exact lw_5_word fx hA hX hbl hbA hT hM X hI hle hL hl hc hs hk
    · refine lv_tableIn (off := 267) (tgt := 300) hx hb dL_law_33 (by decide) (by decide) (by decide) (by decide) ?_
      exact lw_6_hour fx hA hX hbl hbA hT hM X hI hle hL hl hc hs hk
    · refine lv_tableIn (off := 290) (tgt := 323) hx hb dL_law_33 (by decide) (by decide) (by decide) (by decide) ?_
      exact lw_7_offer fx hA hX hbl hbA hT hM X hI hle hL hl hc hs hk
    · refine lv_tableIn (off := 323) (tgt := 356) hx hb dL_law_33 (by decide) (by decide) (by decide) (by decide) ?_
      exact lw_8_take fx hA hX hbl hbA hT hM X hI hle hL hl hc hs hk
    · refine lv_tableIn (off := 346) (tgt := 379) hx hb dL_law_33 (by decide) (by decide) (by decide) (by decide) ?_
      exact lw_9_join fx hA hX hbl hbA hT hM X hI hle hL hl hc hs hk
    · refine lv_tableIn (off := 369) (tgt := 402) hx hb dL_law_33 (by decide) (by decide) (by decide) (by decide) ?_
      exact lw_10_fruit fx hA hX hbl hbA hT hM X hI hle hL hl hc hs hk
    · refine lv_tableIn (off := 392) (tgt := 425) hx hb dL_law_33 (by decide) (by decide) (by decide) (by decide) ?_
      exact lw_11_drift fx hA hX hbl hbA hT hM X hI hle hL hl hc hs hk
    · refine lv_tableIn (off := 415) (tgt := 448) hx hb dL_law_33 (by decide) (by decide) (by decide) (by decide) ?_
      exact lw_12_undo fx hA hX hbl hbA hT hM X hI hle hL hl hc hs hk
    · refine lv_tableIn (off := 438) (tgt := 471) hx hb dL_law_33 (by decide) (by decide) (by decide) (by decide) ?_
      exact lw_13_shifts fx hA hX hbl hbA hT hM X hI hle hL hl hc hs hk
    · refine lv_tableIn (off := 481) (tgt := 514) hx hb dL_law_33 (by decide) (by decide) (by decide) (by decide) ?_
      exact lw_14_sinks fx hA hX hbl hbA hT hM X hI hle hL hl hc hs hk
    · refine lv_tableIn (off := 514) (tgt := 547) hx hb dL_law_33 (by decide) (by decide) (by decide) (by decide) ?_
      exact lw_15_chain fx hA hX hbl hbA hT hM X hI hle hL hl hc hs hk
    · refine lv_tableIn (off := 547) (tgt := 580) hx hb dL_law_33 (by decide) (by decide) (by decide) (by decide) ?_
      exact lw_16_pair fx hA hX hbl hbA hT hM X hI hle hL hl hc hs hk
    · refine lv_tableIn (off := 570) (tgt := 603) hx hb dL_law_33 (by decide) (by decide) (by decide) (by decide) ?_
      exact lw_17_owes fx hA hX hbl hbA hT hM X hI hle hL hl hc hs hk
    · refine lv_tableIn (off := 593) (tgt := 626) hx hb dL_law_33 (by decide) (by decide) (by decide) (by decide) ?_
      exact lw_18_payments fx hA hX hbl hbA hT hM X hI hle hL hl hc hs hk
    · refine lv_tableIn (off := 606) (tgt := 639) hx hb dL_law_33 (by decide) (by decide) (by decide) (by decide) ?_
      exact lw_19_sons fx hA hX hbl hbA hT hM X hI hle hL hl hc hs hk
    · refine lv_tableIn (off := 629) (tgt := 662) hx hb dL_law_33 (by decide) (by decide) (by decide) (by decide) ?_
      exact lw_20_words fx hA hX hbl hbA hT hM X hI hle hL hl hc hs hk
    · refine lv_tableIn (off := 692) (tgt := 725) hx hb dL_law_33 (by decide) (by decide) (by decide) (by decide) ?_
      exact lw_21_pillar fx hA hX hbl hbA hT hM X hI hle hL hl hc hs hk
    · refine lv_tableIn (off := 725) (tgt := 758) hx hb dL_law_33 (by decide) (by decide) (by decide) (by decide) ?_
      exact lw_22_see fx hA hX hbl hbA hT hM X hI hle hL hl hc hs hk
    · refine lv_tableIn (off := 748) (tgt := 781) hx hb dL_law_33 (by decide) (by decide) (by decide) (by decide) ?_
      exact lw_23_who fx hA hX hbl hbA hT hM X hI hle hL hl hc hs hk
    · refine lv_tableIn (off := 771) (tgt := 804) hx hb dL_law_33 (by decide) (by decide) (by decide) (by decide) ?_
      exact lw_24_sure fx hA hX hbl hbA hT hM X hI hle hL hl hc hs hk
    · refine lv_tableIn (off := 784) (tgt := 817) hx hb dL_law_33 (by decide) (by decide) (by decide) (by decide) ?_
      exact lw_25_write fx hA hX hbl hbA hT hM X hI hle hL hl hc hs hk
    · refine lv_tableIn (off := 843) (tgt := 876) hx hb dL_law_33 (by decide) (by decide) (by decide) (by decide) ?_
      exact lw_26_judge fx hA hX hbl hbA hT hM X hI hle hL hl hc hs hk
    · refine lv_tableIn (off := 856) (tgt := 889) hx hb dL_law_33 (by decide) (by decide) (by decide) (by decide) ?_
      exact lw_27_tear fx hA hX hbl hbA hT hM X hI hle hL hl hc hs hk
    · refine lv_tableIn (off := 869) (tgt := 902) hx hb dL_law_33 (by decide) (by decide) (by decide) (by decide) ?_
      exact lw_28_seed fx hA hX hbl hbA hT hM X hI hle hL hl hc hs hk
    · refine lv_tableIn (off := 892) (tgt := 925) hx hb dL_law_33 (by decide) (by decide) (by decide) (by decide) ?_
      exact lw_29_keep fx hA hX hbl hbA hT hM X hI hle hL hl hc hs hk
    · refine lv_tableIn (off := 915) (tgt := 948) hx hb dL_law_33 (by decide) (by decide) (by decide) (by decide) ?_
      exact lw_30_goBack fx hA hX hbl hbA hT hM X hI hle hL hl hc hs hk
    · refine lv_tableOut (tgt := 971) hx hb dL_law_33 (by decide) (by decide) ?_
      obtain ⟨e0, wc, M, hall⟩ := hI
      exact hk S H locs X ⟨e0, wc, M, zi_all_m (by omega) hall⟩
