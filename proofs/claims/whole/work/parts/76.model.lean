/-! ===== the reference's constructor ===== -/
theorem yOModel {E : sy_ET} (hn : 409 < sy_n E) (hK : sy_k E = yK) (hL : sy_l E = yL) (hr : ∀ x, x < 35 → sy_r E 392 x = yF 392 x) : sy_OModel E := by
  have aI : ∀ i n, i ≤ 409 → yK i = 12 → yL i = n → sy_isI E i n := fun i n h1 h2 h3 => ⟨by omega, by rw [hK]; exact h2, by rw [hL]; exact h3⟩
  have aZ : ∀ i n, i ≤ 409 → yK i = 13 → yL i = n → sy_isZ E i n := fun i n h1 h2 h3 => ⟨by omega, by rw [hK]; exact h2, by rw [hL]; exact h3⟩
  exact ⟨⟨by omega, by rw [hK]; decide +kernel⟩, by rw [hr 1 (by omega)]; decide +kernel, aI 393 250 (by omega) (by decide +kernel) (by decide +kernel), by rw [hr 9 (by omega)]; decide +kernel, aI 394 12 (by omega) (by decide +kernel) (by decide +kernel), by rw [hr 11 (by omega)]; decide +kernel, aI 395 30 (by omega) (by decide +kernel) (by decide +kernel), by rw [hr 12 (by omega)]; decide +kernel, aI 396 3 (by omega) (by decide +kernel) (by decide +kernel), by rw [hr 18 (by omega)]; decide +kernel, aI 397 12 (by omega) (by decide +kernel) (by decide +kernel), by rw [hr 20 (by omega)]; decide +kernel, aI 398 30 (by omega) (by decide +kernel) (by decide +kernel), by rw [hr 21 (by omega)]; decide +kernel, aI 399 3 (by omega) (by decide +kernel) (by decide +kernel), by rw [hr 22 (by omega)]; decide +kernel, aI 400 31 (by omega) (by decide +kernel) (by decide +kernel), by rw [hr 23 (by omega)]; decide +kernel, aI 401 31 (by omega) (by decide +kernel) (by decide +kernel), by rw [hr 24 (by omega)]; decide +kernel, aI 402 62 (by omega) (by decide +kernel) (by decide +kernel), by rw [hr 25 (by omega)]; decide +kernel, aZ 403 2 (by omega) (by decide +kernel) (by decide +kernel), by rw [hr 27 (by omega)]; decide +kernel, aI 404 1860 (by omega) (by decide +kernel) (by decide +kernel), by rw [hr 29 (by omega)]; decide +kernel, aI 405 5 (by omega) (by decide +kernel) (by decide +kernel), by rw [hr 31 (by omega)]; decide +kernel, aI 406 60 (by omega) (by decide +kernel) (by decide +kernel), by rw [hr 32 (by omega)]; decide +kernel, aI 407 5 (by omega) (by decide +kernel) (by decide +kernel), by rw [hr 33 (by omega)]; decide +kernel, aI 408 6 (by omega) (by decide +kernel) (by decide +kernel), by rw [hr 34 (by omega)]; decide +kernel, aI 409 64 (by omega) (by decide +kernel) (by decide +kernel)⟩
set_option maxRecDepth 100000 in
set_option maxHeartbeats 40000000 in
theorem k_Model (l : Launch) {E0 : sy_ET} {S : sy_St} {S1 : sy_St} {r : Int32} (hc : m_Model_begin (sy_up S 392 6 (-1)) = some (r, S1)) (h0 : sy_A0 E0 S 392) : sy_MC l yX12_init cX12_init 1 1 21 17 2466 [.ref (sy_ad E0 392)] E0 S 17 (yR E0 392 410) (fun T => T = sy_up (sy_up (sy_up (sy_up S1 399 0 3) 399 1 5) 399 2 7) 400 3 9) := by
  refine sy_MC_of RX12 pn_12 rfl rfl (Nat.le_of_ble_eq_true rfl) (fun p e s m args below meth c A ls fx hr hlk hin hao hA X hl => ?_)
  have hx := fx.1
  have hb := fx.2.1
  have hl : lv_has ls 1 [(0, .ref (sy_ad E0 392))] := hl
  obtain ⟨n0, K0, L0, cl0, r0, z0⟩ := h0
  have KN : ∀ {E : sy_ET} {m : Nat} {rr : Nat → Nat → Option Nat}, sy_Q E0 E m rr → sy_n E = 392 + 1 + m ∧ sy_k E (sy_n E) = yK (392 + 1 + m) ∧ sy_l E (sy_n E) = yL (392 + 1 + m) ∧ sy_clo E ∧ ∀ i, i ≤ 392 → sy_ad E i = sy_ad E0 i := fun h => by
    have hn := h.1
    rw [n0] at hn
    exact ⟨hn, by rw [h.2.1, K0, hn], by rw [h.2.2.1, L0, hn], h.2.2.2.2.2.2.2.2.2, fun i hi => h.2.2.2.2.2.2.2.1 i (by omega)⟩
  have IO : ∀ {E : sy_ET} {m : Nat} {rr : Nat → Nat → Option Nat}, sy_Q E0 E m rr → sy_isO E 11 392 := fun h => ⟨by rw [(KN h).1]; omega, by rw [h.2.1, K0]; decide +kernel⟩
  have hQ := sy_Q_0 cl0
  refine lv_aload_n hx hb dX12_init_0 rfl (lv_at hl 0 rfl) ?_
  refine sy_obj0 (rest := []) fx hl.1 wm_165 dX12_init_1 (Nat.le_of_ble_eq_true rfl) (Nat.le_of_ble_eq_true rfl) ?_
  refine lv_aload_n hx hb dX12_init_4 rfl (lv_at hl 0 rfl) ?_
  refine lv_sipush (v := 250) hx hb dX12_init_5 (by decide) ?_
  obtain ⟨n1, k1, l1, c1, a1⟩ := KN hQ
  refine sy_newI fx hA X c1 (N := 250) (by rw [k1]; decide +kernel) (by rw [l1]; decide +kernel) (z0 _ (by omega)) (by decide) rfl (Nat.le_of_ble_eq_true rfl) (Nat.le_of_ble_eq_true rfl) (Nat.le_of_ble_eq_true rfl) dX12_init_8 (fun q H X => ?_)
  have hq2 := sy_ne_q (E := E0) (q := q)
  rw [n1] at hq2
  have hQ := sy_Q_n (q := q) hQ
  refine sy_h11 fx hin X (IO hQ) 1 (by decide) wm_166 (fun _ h9 => h9) rfl rfl (ty := .array .int) (by decide +kernel) rfl rfl ((KN hQ).2.2.2.2 392 (Nat.le_refl _)) (a := 392 + 1 + 0) hq2 (by simp [sy_f11, sy_rv_rs]) dX12_init_10 (fun H locs X => ?_)
  have hQ := sy_Q_r (k := 392) (j := 1) (a := 392 + 1 + 0) hQ (by rw [(KN hQ).1]; omega)
  generalize sy_rs (sy_ne E0 q) 392 1 (392 + 1 + 0) = E at X hQ
  refine lv_aload_n hx hb dX12_init_13 rfl (lv_at hl 0 rfl) ?_
  refine lv_iconst (v := (-1)) hx hb dX12_init_14 (by decide) ?_
  have a1 := (KN hQ).2.2.2.2 392 (Nat.le_refl _)
  rw [← a1]
  obtain ⟨SA, hSA⟩ : ∃ T, T = sy_up S 392 6 (-1) := ⟨_, rfl⟩
  refine sy_p11 fx X (IO hQ) 6 (by decide) wm_167 (fun _ h9 => h9) rfl (ty := .int) (by decide +kernel) rfl rfl hSA sy_s11_6 dX12_init_15 (fun H locs X => ?_)
  have z0 : ∀ i, 393 ≤ i → SA i = fun _ => 0 := fun i hi => by rw [hSA, zz_up1 (by omega)]; exact z0 i (by omega)
  rw [← hSA] at hc
  refine lv_aload_n hx hb dX12_init_18 rfl (lv_at hl 0 rfl) ?_
  refine lv_bipush (v := 12) hx hb dX12_init_19 (by decide) ?_
  obtain ⟨n1, k1, l1, c1, a1⟩ := KN hQ
  refine sy_newI fx hA X c1 (N := 12) (by rw [k1]; decide +kernel) (by rw [l1]; decide +kernel) (z0 _ (by omega)) (by decide) rfl (Nat.le_of_ble_eq_true rfl) (Nat.le_of_ble_eq_true rfl) (Nat.le_of_ble_eq_true rfl) dX12_init_21 (fun q H X => ?_)
  have hq2 := sy_ne_q (E := E) (q := q)
  rw [n1] at hq2
  have hQ := sy_Q_n (q := q) hQ
  refine sy_h11 fx hin X (IO hQ) 9 (by decide) wm_168 (fun _ h9 => h9) rfl rfl (ty := .array .int) (by decide +kernel) rfl rfl ((KN hQ).2.2.2.2 392 (Nat.le_refl _)) (a := 392 + 1 + 1) hq2 (by simp [sy_f11, sy_rv_rs]) dX12_init_23 (fun H locs X => ?_)
  have hQ := sy_Q_r (k := 392) (j := 9) (a := 392 + 1 + 1) hQ (by rw [(KN hQ).1]; omega)
  generalize sy_rs (sy_ne E q) 392 9 (392 + 1 + 1) = E at X hQ
  refine lv_aload_n hx hb dX12_init_26 rfl (lv_at hl 0 rfl) ?_
  refine lv_bipush (v := 30) hx hb dX12_init_27 (by decide) ?_
  obtain ⟨n1, k1, l1, c1, a1⟩ := KN hQ
  refine sy_newI fx hA X c1 (N := 30) (by rw [k1]; decide +kernel) (by rw [l1]; decide +kernel) (z0 _ (by omega)) (by decide) rfl (Nat.le_of_ble_eq_true rfl) (Nat.le_of_ble_eq_true rfl) (Nat.le_of_ble_eq_true rfl) dX12_init_29 (fun q H X => ?_)
  have hq2 := sy_ne_q (E := E) (q := q)
  rw [n1] at hq2
  have hQ := sy_Q_n (q := q) hQ
  refine sy_h11 fx hin X (IO hQ) 11 (by decide) wm_169 (fun _ h9 => h9) rfl rfl (ty := .array .int) (by decide +kernel) rfl rfl ((KN hQ).2.2.2.2 392 (Nat.le_refl _)) (a := 392 + 1 + 2) hq2 (by simp [sy_f11, sy_rv_rs]) dX12_init_31 (fun H locs X => ?_)
  have hQ := sy_Q_r (k := 392) (j := 11) (a := 392 + 1 + 2) hQ (by rw [(KN hQ).1]; omega)
  generalize sy_rs (sy_ne E q) 392 11 (392 + 1 + 2) = E at X hQ
  refine lv_aload_n hx hb dX12_init_34 rfl (lv_at hl 0 rfl) ?_
  refine lv_iconst (v := 3) hx hb dX12_init_35 (by decide) ?_
  obtain ⟨n1, k1, l1, c1, a1⟩ := KN hQ
  refine sy_newI fx hA X c1 (N := 3) (by rw [k1]; decide +kernel) (by rw [l1]; decide +kernel) (z0 _ (by omega)) (by decide) rfl (Nat.le_of_ble_eq_true rfl) (Nat.le_of_ble_eq_true rfl) (Nat.le_of_ble_eq_true rfl) dX12_init_36 (fun q H X => ?_)
  have hq2 := sy_ne_q (E := E) (q := q)
  rw [n1] at hq2
  have hQ := sy_Q_n (q := q) hQ
  refine sy_h11 fx hin X (IO hQ) 12 (by decide) wm_170 (fun _ h9 => h9) rfl rfl (ty := .array .int) (by decide +kernel) rfl rfl ((KN hQ).2.2.2.2 392 (Nat.le_refl _)) (a := 392 + 1 + 3) hq2 (by simp [sy_f11, sy_rv_rs]) dX12_init_38 (fun H locs X => ?_)
  have hQ := sy_Q_r (k := 392) (j := 12) (a := 392 + 1 + 3) hQ (by rw [(KN hQ).1]; omega)
  generalize sy_rs (sy_ne E q) 392 12 (392 + 1 + 3) = E at X hQ
  refine lv_aload_n hx hb dX12_init_41 rfl (lv_at hl 0 rfl) ?_
  refine lv_bipush (v := 12) hx hb dX12_init_42 (by decide) ?_
  obtain ⟨n1, k1, l1, c1, a1⟩ := KN hQ
  refine sy_newI fx hA X c1 (N := 12) (by rw [k1]; decide +kernel) (by rw [l1]; decide +kernel) (z0 _ (by omega)) (by decide) rfl (Nat.le_of_ble_eq_true rfl) (Nat.le_of_ble_eq_true rfl) (Nat.le_of_ble_eq_true rfl) dX12_init_44 (fun q H X => ?_)
  have hq2 := sy_ne_q (E := E) (q := q)
  rw [n1] at hq2
  have hQ := sy_Q_n (q := q) hQ
  refine sy_h11 fx hin X (IO hQ) 18 (by decide) wm_171 (fun _ h9 => h9) rfl rfl (ty := .array .int) (by decide +kernel) rfl rfl ((KN hQ).2.2.2.2 392 (Nat.le_refl _)) (a := 392 + 1 + 4) hq2 (by simp [sy_f11, sy_rv_rs]) dX12_init_46 (fun H locs X => ?_)
  have hQ := sy_Q_r (k := 392) (j := 18) (a := 392 + 1 + 4) hQ (by rw [(KN hQ).1]; omega)
  generalize sy_rs (sy_ne E q) 392 18 (392 + 1 + 4) = E at X hQ
  refine lv_aload_n hx hb dX12_init_49 rfl (lv_at hl 0 rfl) ?_
  refine lv_bipush (v := 30) hx hb dX12_init_50 (by decide) ?_
  obtain ⟨n1, k1, l1, c1, a1⟩ := KN hQ
  refine sy_newI fx hA X c1 (N := 30) (by rw [k1]; decide +kernel) (by rw [l1]; decide +kernel) (z0 _ (by omega)) (by decide) rfl (Nat.le_of_ble_eq_true rfl) (Nat.le_of_ble_eq_true rfl) (Nat.le_of_ble_eq_true rfl) dX12_init_52 (fun q H X => ?_)
  have hq2 := sy_ne_q (E := E) (q := q)
  rw [n1] at hq2
  have hQ := sy_Q_n (q := q) hQ
  refine sy_h11 fx hin X (IO hQ) 20 (by decide) wm_172 (fun _ h9 => h9) rfl rfl (ty := .array .int) (by decide +kernel) rfl rfl ((KN hQ).2.2.2.2 392 (Nat.le_refl _)) (a := 392 + 1 + 5) hq2 (by simp [sy_f11, sy_rv_rs]) dX12_init_54 (fun H locs X => ?_)
  have hQ := sy_Q_r (k := 392) (j := 20) (a := 392 + 1 + 5) hQ (by rw [(KN hQ).1]; omega)
  generalize sy_rs (sy_ne E q) 392 20 (392 + 1 + 5) = E at X hQ
  refine lv_aload_n hx hb dX12_init_57 rfl (lv_at hl 0 rfl) ?_
  refine lv_iconst (v := 3) hx hb dX12_init_58 (by decide) ?_
  obtain ⟨n1, k1, l1, c1, a1⟩ := KN hQ
  refine sy_newI fx hA X c1 (N := 3) (by rw [k1]; decide +kernel) (by rw [l1]; decide +kernel) (z0 _ (by omega)) (by decide) rfl (Nat.le_of_ble_eq_true rfl) (Nat.le_of_ble_eq_true rfl) (Nat.le_of_ble_eq_true rfl) dX12_init_59 (fun q H X => ?_)
  have hq2 := sy_ne_q (E := E) (q := q)
  rw [n1] at hq2
  have hQ := sy_Q_n (q := q) hQ
  refine sy_h11 fx hin X (IO hQ) 21 (by decide) wm_173 (fun _ h9 => h9) rfl rfl (ty := .array .int) (by decide +kernel) rfl rfl ((KN hQ).2.2.2.2 392 (Nat.le_refl _)) (a := 392 + 1 + 6) hq2 (by simp [sy_f11, sy_rv_rs]) dX12_init_61 (fun H locs X => ?_)
  have hQ := sy_Q_r (k := 392) (j := 21) (a := 392 + 1 + 6) hQ (by rw [(KN hQ).1]; omega)
  generalize sy_rs (sy_ne E q) 392 21 (392 + 1 + 6) = E at X hQ
  refine lv_aload_n hx hb dX12_init_64 rfl (lv_at hl 0 rfl) ?_
  refine lv_bipush (v := 31) hx hb dX12_init_65 (by decide) ?_
  obtain ⟨n1, k1, l1, c1, a1⟩ := KN hQ
  refine sy_newI fx hA X c1 (N := 31) (by rw [k1]; decide +kernel) (by rw [l1]; decide +kernel) (z0 _ (by omega)) (by decide) rfl (Nat.le_of_ble_eq_true rfl) (Nat.le_of_ble_eq_true rfl) (Nat.le_of_ble_eq_true rfl) dX12_init_67 (fun q H X => ?_)
  have hq2 := sy_ne_q (E := E) (q := q)
  rw [n1] at hq2
  have hQ := sy_Q_n (q := q) hQ
  refine sy_h11 fx hin X (IO hQ) 22 (by decide) wm_174 (fun _ h9 => h9) rfl rfl (ty := .array .int) (by decide +kernel) rfl rfl ((KN hQ).2.2.2.2 392 (Nat.le_refl _)) (a := 392 + 1 + 7) hq2 (by simp [sy_f11, sy_rv_rs]) dX12_init_69 (fun H locs X => ?_)
  have hQ := sy_Q_r (k := 392) (j := 22) (a := 392 + 1 + 7) hQ (by rw [(KN hQ).1]; omega)
  generalize sy_rs (sy_ne E q) 392 22 (392 + 1 + 7) = E at X hQ
  refine lv_aload_n hx hb dX12_init_72 rfl (lv_at hl 0 rfl) ?_
  refine lv_bipush (v := 31) hx hb dX12_init_73 (by decide) ?_
  obtain ⟨n1, k1, l1, c1, a1⟩ := KN hQ
  refine sy_newI fx hA X c1 (N := 31) (by rw [k1]; decide +kernel) (by rw [l1]; decide +kernel) (z0 _ (by omega)) (by decide) rfl (Nat.le_of_ble_eq_true rfl) (Nat.le_of_ble_eq_true rfl) (Nat.le_of_ble_eq_true rfl) dX12_init_75 (fun q H X => ?_)
  have hq2 := sy_ne_q (E := E) (q := q)
  rw [n1] at hq2
  have hQ := sy_Q_n (q := q) hQ
  refine sy_h11 fx hin X (IO hQ) 23 (by decide) wm_175 (fun _ h9 => h9) rfl rfl (ty := .array .int) (by decide +kernel) rfl rfl ((KN hQ).2.2.2.2 392 (Nat.le_refl _)) (a := 392 + 1 + 8) hq2 (by simp [sy_f11, sy_rv_rs]) dX12_init_77 (fun H locs X => ?_)
  have hQ := sy_Q_r (k := 392) (j := 23) (a := 392 + 1 + 8) hQ (by rw [(KN hQ).1]; omega)
  generalize sy_rs (sy_ne E q) 392 23 (392 + 1 + 8) = E at X hQ
  refine lv_aload_n hx hb dX12_init_80 rfl (lv_at hl 0 rfl) ?_
  refine lv_bipush (v := 62) hx hb dX12_init_81 (by decide) ?_
  obtain ⟨n1, k1, l1, c1, a1⟩ := KN hQ
  refine sy_newI fx hA X c1 (N := 62) (by rw [k1]; decide +kernel) (by rw [l1]; decide +kernel) (z0 _ (by omega)) (by decide) rfl (Nat.le_of_ble_eq_true rfl) (Nat.le_of_ble_eq_true rfl) (Nat.le_of_ble_eq_true rfl) dX12_init_83 (fun q H X => ?_)
  have hq2 := sy_ne_q (E := E) (q := q)
  rw [n1] at hq2
  have hQ := sy_Q_n (q := q) hQ
  refine sy_h11 fx hin X (IO hQ) 24 (by decide) wm_176 (fun _ h9 => h9) rfl rfl (ty := .array .int) (by decide +kernel) rfl rfl ((KN hQ).2.2.2.2 392 (Nat.le_refl _)) (a := 392 + 1 + 9) hq2 (by simp [sy_f11, sy_rv_rs]) dX12_init_85 (fun H locs X => ?_)
  have hQ := sy_Q_r (k := 392) (j := 24) (a := 392 + 1 + 9) hQ (by rw [(KN hQ).1]; omega)
  generalize sy_rs (sy_ne E q) 392 24 (392 + 1 + 9) = E at X hQ
  refine lv_aload_n hx hb dX12_init_88 rfl (lv_at hl 0 rfl) ?_
  refine lv_iconst (v := 2) hx hb dX12_init_89 (by decide) ?_
  obtain ⟨n1, k1, l1, c1, a1⟩ := KN hQ
  refine sy_newZ fx hA X c1 (N := 2) (by rw [k1]; decide +kernel) (by rw [l1]; decide +kernel) (z0 _ (by omega)) (by decide) rfl (Nat.le_of_ble_eq_true rfl) (Nat.le_of_ble_eq_true rfl) (Nat.le_of_ble_eq_true rfl) dX12_init_90 (fun q H X => ?_)
  have hq2 := sy_ne_q (E := E) (q := q)
  rw [n1] at hq2
  have hQ := sy_Q_n (q := q) hQ
  refine sy_h11 fx hin X (IO hQ) 25 (by decide) wm_177 (fun _ h9 => h9) rfl rfl (ty := .array .boolean) (by decide +kernel) rfl rfl ((KN hQ).2.2.2.2 392 (Nat.le_refl _)) (a := 392 + 1 + 10) hq2 (by simp [sy_f11, sy_rv_rs]) dX12_init_92 (fun H locs X => ?_)
  have hQ := sy_Q_r (k := 392) (j := 25) (a := 392 + 1 + 10) hQ (by rw [(KN hQ).1]; omega)
  generalize sy_rs (sy_ne E q) 392 25 (392 + 1 + 10) = E at X hQ
  refine lv_aload_n hx hb dX12_init_95 rfl (lv_at hl 0 rfl) ?_
  refine lv_sipush (v := 1860) hx hb dX12_init_96 (by decide) ?_
  obtain ⟨n1, k1, l1, c1, a1⟩ := KN hQ
  refine sy_newI fx hA X c1 (N := 1860) (by rw [k1]; decide +kernel) (by rw [l1]; decide +kernel) (z0 _ (by omega)) (by decide) rfl (Nat.le_of_ble_eq_true rfl) (Nat.le_of_ble_eq_true rfl) (Nat.le_of_ble_eq_true rfl) dX12_init_99 (fun q H X => ?_)
  have hq2 := sy_ne_q (E := E) (q := q)
  rw [n1] at hq2
  have hQ := sy_Q_n (q := q) hQ
  refine sy_h11 fx hin X (IO hQ) 27 (by decide) wm_178 (fun _ h9 => h9) rfl rfl (ty := .array .int) (by decide +kernel) rfl rfl ((KN hQ).2.2.2.2 392 (Nat.le_refl _)) (a := 392 + 1 + 11) hq2 (by simp [sy_f11, sy_rv_rs]) dX12_init_101 (fun H locs X => ?_)
  have hQ := sy_Q_r (k := 392) (j := 27) (a := 392 + 1 + 11) hQ (by rw [(KN hQ).1]; omega)
  generalize sy_rs (sy_ne E q) 392 27 (392 + 1 + 11) = E at X hQ
  refine lv_aload_n hx hb dX12_init_104 rfl (lv_at hl 0 rfl) ?_
  refine lv_iconst (v := 5) hx hb dX12_init_105 (by decide) ?_
  obtain ⟨n1, k1, l1, c1, a1⟩ := KN hQ
  refine sy_newI fx hA X c1 (N := 5) (by rw [k1]; decide +kernel) (by rw [l1]; decide +kernel) (z0 _ (by omega)) (by decide) rfl (Nat.le_of_ble_eq_true rfl) (Nat.le_of_ble_eq_true rfl) (Nat.le_of_ble_eq_true rfl) dX12_init_106 (fun q H X => ?_)
  have hq2 := sy_ne_q (E := E) (q := q)
  rw [n1] at hq2
  have hQ := sy_Q_n (q := q) hQ
  refine sy_h11 fx hin X (IO hQ) 29 (by decide) wm_179 (fun _ h9 => h9) rfl rfl (ty := .array .int) (by decide +kernel) rfl rfl ((KN hQ).2.2.2.2 392 (Nat.le_refl _)) (a := 392 + 1 + 12) hq2 (by simp [sy_f11, sy_rv_rs]) dX12_init_108 (fun H locs X => ?_)
  have hQ := sy_Q_r (k := 392) (j := 29) (a := 392 + 1 + 12) hQ (by rw [(KN hQ).1]; omega)
  generalize sy_rs (sy_ne E q) 392 29 (392 + 1 + 12) = E at X hQ
  refine lv_aload_n hx hb dX12_init_111 rfl (lv_at hl 0 rfl) ?_
  refine lv_bipush (v := 60) hx hb dX12_init_112 (by decide) ?_
  obtain ⟨n1, k1, l1, c1, a1⟩ := KN hQ
  refine sy_newI fx hA X c1 (N := 60) (by rw [k1]; decide +kernel) (by rw [l1]; decide +kernel) (z0 _ (by omega)) (by decide) rfl (Nat.le_of_ble_eq_true rfl) (Nat.le_of_ble_eq_true rfl) (Nat.le_of_ble_eq_true rfl) dX12_init_114 (fun q H X => ?_)
  have hq2 := sy_ne_q (E := E) (q := q)
  rw [n1] at hq2
  have hQ := sy_Q_n (q := q) hQ
  refine sy_h11 fx hin X (IO hQ) 31 (by decide) wm_180 (fun _ h9 => h9) rfl rfl (ty := .array .int) (by decide +kernel) rfl rfl ((KN hQ).2.2.2.2 392 (Nat.le_refl _)) (a := 392 + 1 + 13) hq2 (by simp [sy_f11, sy_rv_rs]) dX12_init_116 (fun H locs X => ?_)
  have hQ := sy_Q_r (k := 392) (j := 31) (a := 392 + 1 + 13) hQ (by rw [(KN hQ).1]; omega)
  generalize sy_rs (sy_ne E q) 392 31 (392 + 1 + 13) = E at X hQ
  refine lv_aload_n hx hb dX12_init_119 rfl (lv_at hl 0 rfl) ?_
  refine lv_iconst (v := 5) hx hb dX12_init_120 (by decide) ?_
  obtain ⟨n1, k1, l1, c1, a1⟩ := KN hQ
  refine sy_newI fx hA X c1 (N := 5) (by rw [k1]; decide +kernel) (by rw [l1]; decide +kernel) (z0 _ (by omega)) (by decide) rfl (Nat.le_of_ble_eq_true rfl) (Nat.le_of_ble_eq_true rfl) (Nat.le_of_ble_eq_true rfl) dX12_init_121 (fun q H X => ?_)
  have hq2 := sy_ne_q (E := E) (q := q)
  rw [n1] at hq2
  have hQ := sy_Q_n (q := q) hQ
  refine sy_h11 fx hin X (IO hQ) 32 (by decide) wm_181 (fun _ h9 => h9) rfl rfl (ty := .array .int) (by decide +kernel) rfl rfl ((KN hQ).2.2.2.2 392 (Nat.le_refl _)) (a := 392 + 1 + 14) hq2 (by simp [sy_f11, sy_rv_rs]) dX12_init_123 (fun H locs X => ?_)
  have hQ := sy_Q_r (k := 392) (j := 32) (a := 392 + 1 + 14) hQ (by rw [(KN hQ).1]; omega)
  generalize sy_rs (sy_ne E q) 392 32 (392 + 1 + 14) = E at X hQ
  refine lv_aload_n hx hb dX12_init_126 rfl (lv_at hl 0 rfl) ?_
  refine lv_bipush (v := 6) hx hb dX12_init_127 (by decide) ?_
  obtain ⟨n1, k1, l1, c1, a1⟩ := KN hQ
  refine sy_newI fx hA X c1 (N := 6) (by rw [k1]; decide +kernel) (by rw [l1]; decide +kernel) (z0 _ (by omega)) (by decide) rfl (Nat.le_of_ble_eq_true rfl) (Nat.le_of_ble_eq_true rfl) (Nat.le_of_ble_eq_true rfl) dX12_init_129 (fun q H X => ?_)
  have hq2 := sy_ne_q (E := E) (q := q)
  rw [n1] at hq2
  have hQ := sy_Q_n (q := q) hQ
  refine sy_h11 fx hin X (IO hQ) 33 (by decide) wm_182 (fun _ h9 => h9) rfl rfl (ty := .array .int) (by decide +kernel) rfl rfl ((KN hQ).2.2.2.2 392 (Nat.le_refl _)) (a := 392 + 1 + 15) hq2 (by simp [sy_f11, sy_rv_rs]) dX12_init_131 (fun H locs X => ?_)
  have hQ := sy_Q_r (k := 392) (j := 33) (a := 392 + 1 + 15) hQ (by rw [(KN hQ).1]; omega)
  generalize sy_rs (sy_ne E q) 392 33 (392 + 1 + 15) = E at X hQ
  refine lv_aload_n hx hb dX12_init_134 rfl (lv_at hl 0 rfl) ?_
  refine lv_bipush (v := 64) hx hb dX12_init_135 (by decide) ?_
  obtain ⟨n1, k1, l1, c1, a1⟩ := KN hQ
  refine sy_newI fx hA X c1 (N := 64) (by rw [k1]; decide +kernel) (by rw [l1]; decide +kernel) (z0 _ (by omega)) (by decide) rfl (Nat.le_of_ble_eq_true rfl) (Nat.le_of_ble_eq_true rfl) (Nat.le_of_ble_eq_true rfl) dX12_init_137 (fun q H X => ?_)
  have hq2 := sy_ne_q (E := E) (q := q)
  rw [n1] at hq2
  have hQ := sy_Q_n (q := q) hQ
  refine sy_h11 fx hin X (IO hQ) 34 (by decide) wm_183 (fun _ h9 => h9) rfl rfl (ty := .array .int) (by decide +kernel) rfl rfl ((KN hQ).2.2.2.2 392 (Nat.le_refl _)) (a := 392 + 1 + 16) hq2 (by simp [sy_f11, sy_rv_rs]) dX12_init_139 (fun H locs X => ?_)
  have hQ := sy_Q_r (k := 392) (j := 34) (a := 392 + 1 + 16) hQ (by rw [(KN hQ).1]; omega)
  generalize sy_rs (sy_ne E q) 392 34 (392 + 1 + 16) = E at X hQ
  refine lv_aload_n hx hb dX12_init_142 rfl (lv_at hl 0 rfl) ?_
  have rr : ∀ x, x < 35 → sy_r E 392 x = yF 392 x := fun x hx => by
    rw [hQ.2.2.2.2.2.2.2.2.1]
    simp only [true_and, r0 392 _ (Nat.le_refl _)]
    exact (show ∀ x, x < 35 → (if x = 34 then some (392 + 1 + 16) else if x = 33 then some (392 + 1 + 15) else if x = 32 then some (392 + 1 + 14) else if x = 31 then some (392 + 1 + 13) else if x = 29 then some (392 + 1 + 12) else if x = 27 then some (392 + 1 + 11) else if x = 25 then some (392 + 1 + 10) else if x = 24 then some (392 + 1 + 9) else if x = 23 then some (392 + 1 + 8) else if x = 22 then some (392 + 1 + 7) else if x = 21 then some (392 + 1 + 6) else if x = 20 then some (392 + 1 + 5) else if x = 18 then some (392 + 1 + 4) else if x = 12 then some (392 + 1 + 3) else if x = 11 then some (392 + 1 + 2) else if x = 9 then some (392 + 1 + 1) else if x = 1 then some (392 + 1 + 0) else none) = yF 392 x by decide +kernel) x hx
  have ht : sy_OModel E := yOModel (by rw [(KN hQ).1]; omega) (by rw [hQ.2.1, K0]) (by rw [hQ.2.2.1, L0]) rr
  have a1 := (KN hQ).2.2.2.2 392 (Nat.le_refl _)
  refine sy_vv (rest := []) fx hA X hl.1 (sy_OModel_o ht) (sy_en11 (sy_OModel_o ht).2) rfl (c_Model_begin l ht hc) cv_Model_begin wm_184 ⟨Nat.le_of_ble_eq_true rfl, Nat.le_of_ble_eq_true rfl, Nat.le_of_ble_eq_true rfl, Nat.le_of_ble_eq_true rfl⟩ rfl (by rw [a1]; rfl) (Nat.le_of_ble_eq_true rfl) dX12_init_143 (fun H locs X => ?_)
  refine lv_aload_n hx hb dX12_init_146 rfl (lv_at hl 0 rfl) ?_
  rw [← a1]
  refine sy_q11 fx X (sy_OModel_o ht) 21 (by decide) wm_173 (fun _ h9 => h9) rfl (sy_OModel_r21 ht) dX12_init_147 ?_
  refine lv_iconst (v := 0) hx hb dX12_init_150 (by decide) ?_
  refine lv_iconst (v := 3) hx hb dX12_init_151 (by decide) ?_
  obtain ⟨SB0, hSB0⟩ : ∃ T, T = sy_up S1 399 0 3 := ⟨_, rfl⟩
  refine sy_iast fx X (sy_OModel_a21 ht) (by decide) hSB0 dX12_init_152 (fun H locs X => ?_)
  refine lv_aload_n hx hb dX12_init_153 rfl (lv_at hl 0 rfl) ?_
  rw [← a1]
  refine sy_q11 fx X (sy_OModel_o ht) 21 (by decide) wm_173 (fun _ h9 => h9) rfl (sy_OModel_r21 ht) dX12_init_154 ?_
  refine lv_iconst (v := 1) hx hb dX12_init_157 (by decide) ?_
  refine lv_iconst (v := 5) hx hb dX12_init_158 (by decide) ?_
  obtain ⟨SB1, hSB1⟩ : ∃ T, T = sy_up SB0 399 1 5 := ⟨_, rfl⟩
  refine sy_iast fx X (sy_OModel_a21 ht) (by decide) hSB1 dX12_init_159 (fun H locs X => ?_)
  refine lv_aload_n hx hb dX12_init_160 rfl (lv_at hl 0 rfl) ?_
  rw [← a1]
  refine sy_q11 fx X (sy_OModel_o ht) 21 (by decide) wm_173 (fun _ h9 => h9) rfl (sy_OModel_r21 ht) dX12_init_161 ?_
  refine lv_iconst (v := 2) hx hb dX12_init_164 (by decide) ?_
  refine lv_bipush (v := 7) hx hb dX12_init_165 (by decide) ?_
  obtain ⟨SB2, hSB2⟩ : ∃ T, T = sy_up SB1 399 2 7 := ⟨_, rfl⟩
  refine sy_iast fx X (sy_OModel_a21 ht) (by decide) hSB2 dX12_init_167 (fun H locs X => ?_)
  refine lv_aload_n hx hb dX12_init_168 rfl (lv_at hl 0 rfl) ?_
  rw [← a1]
  refine sy_q11 fx X (sy_OModel_o ht) 22 (by decide) wm_174 (fun _ h9 => h9) rfl (sy_OModel_r22 ht) dX12_init_169 ?_
  refine lv_iconst (v := 3) hx hb dX12_init_172 (by decide) ?_
  refine lv_bipush (v := 9) hx hb dX12_init_173 (by decide) ?_
  obtain ⟨SB3, hSB3⟩ : ∃ T, T = sy_up SB2 400 3 9 := ⟨_, rfl⟩
  refine sy_iast fx X (sy_OModel_a22 ht) (by decide) hSB3 dX12_init_175 (fun H locs X => ?_)
  refine sy_cret fx X hr hlk (sy_Q_c hQ rfl ?_) (by rw [hSB3, hSB2, hSB1, hSB0]) (Nat.le_of_ble_eq_true rfl) (Nat.le_of_ble_eq_true rfl) dX12_init_176
  funext i x
  unfold yR
  by_cases hi : 392 ≤ i ∧ i < 410
  · rw [if_pos hi]
    by_cases hik : i = 392
    · subst hik
      simp only [true_and, r0 392 _ (Nat.le_refl _)]
      by_cases hx : x < 35
      · exact (show ∀ x, x < 35 → (if x = 34 then some (392 + 1 + 16) else if x = 33 then some (392 + 1 + 15) else if x = 32 then some (392 + 1 + 14) else if x = 31 then some (392 + 1 + 13) else if x = 29 then some (392 + 1 + 12) else if x = 27 then some (392 + 1 + 11) else if x = 25 then some (392 + 1 + 10) else if x = 24 then some (392 + 1 + 9) else if x = 23 then some (392 + 1 + 8) else if x = 22 then some (392 + 1 + 7) else if x = 21 then some (392 + 1 + 6) else if x = 20 then some (392 + 1 + 5) else if x = 18 then some (392 + 1 + 4) else if x = 12 then some (392 + 1 + 3) else if x = 11 then some (392 + 1 + 2) else if x = 9 then some (392 + 1 + 1) else if x = 1 then some (392 + 1 + 0) else none) = yF 392 x by decide +kernel) x hx
      · simp only [show ¬ x = 1 by omega, show ¬ x = 9 by omega, show ¬ x = 11 by omega, show ¬ x = 12 by omega, show ¬ x = 18 by omega, show ¬ x = 20 by omega, show ¬ x = 21 by omega, show ¬ x = 22 by omega, show ¬ x = 23 by omega, show ¬ x = 24 by omega, show ¬ x = 25 by omega, show ¬ x = 27 by omega, show ¬ x = 29 by omega, show ¬ x = 31 by omega, show ¬ x = 32 by omega, show ¬ x = 33 by omega, show ¬ x = 34 by omega, if_false]
        have : yF 392 x = yFk 11 392 x := by unfold yF; rw [show yK 392 = 11 by decide +kernel]
        rw [this]
        unfold yFk
        simp only [show ¬ x = 0 by omega, show ¬ x = 1 by omega, show ¬ x = 2 by omega, show ¬ x = 3 by omega, show ¬ x = 4 by omega, show ¬ x = 5 by omega, show ¬ x = 6 by omega, show ¬ x = 7 by omega, show ¬ x = 8 by omega, show ¬ x = 9 by omega, show ¬ x = 10 by omega, show ¬ x = 11 by omega, show ¬ x = 12 by omega, show ¬ x = 13 by omega, show ¬ x = 14 by omega, show ¬ x = 15 by omega, show ¬ x = 16 by omega, show ¬ x = 17 by omega, show ¬ x = 18 by omega, show ¬ x = 19 by omega, show ¬ x = 20 by omega, show ¬ x = 21 by omega, show ¬ x = 22 by omega, show ¬ x = 23 by omega, show ¬ x = 24 by omega, show ¬ x = 25 by omega, show ¬ x = 26 by omega, show ¬ x = 27 by omega, show ¬ x = 28 by omega, show ¬ x = 29 by omega, show ¬ x = 30 by omega, show ¬ x = 31 by omega, show ¬ x = 32 by omega, show ¬ x = 33 by omega, show ¬ x = 34 by omega, show ¬ x < 35 by omega, if_false]
    · simp only [hik, false_and, if_false]
      rw [r0 i x (by omega)]
      have : yK i = 12 ∨ yK i = 13 := (show ∀ i, i < 410 → 392 < i → (yK i = 12 ∨ yK i = 13) by decide +kernel) i (by omega) (by omega)
      unfold yF
      rcases this with q | q <;> rw [q] <;> rfl
  · have hik : ¬ i = 392 := by omega
    rw [if_neg hi]
    simp only [hik, false_and, if_false]
