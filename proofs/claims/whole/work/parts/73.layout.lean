/-! ===== the layout of all cells ===== -/
def yK (i : Nat) : Nat := if i = 0 then 10 else if i = 1 then 3 else if i ≤ 8 then 12 else if i = 9 then 14 else if i ≤ 34 then (if i % 5 = 0 then 9 else 12) else if i = 35 then 6 else if i = 36 then 12 else if i = 37 then 3 else if i ≤ 44 then 12 else if i ≤ 54 then (if i % 5 = 0 then 9 else 12) else if i = 55 then 5 else if i = 56 then 14 else if i ≤ 356 then (if i % 5 = 2 then 9 else 12) else if i = 357 then 14 else if i ≤ 367 then (if i % 5 = 3 then 9 else 12) else if i = 368 then 13 else if i = 369 then 12 else if i = 370 then 8 else if i ≤ 373 then 12 else if i = 374 then 7 else if i ≤ 378 then 12 else if i = 379 then 1 else if i ≤ 381 then 13 else if i ≤ 383 then 12 else if i = 384 then 0 else if i ≤ 386 then 12 else if i = 387 then 13 else if i = 388 then 2 else if i ≤ 390 then 12 else if i = 391 then 4 else if i = 392 then 11 else if i = 403 then 13 else 12
def yL (i : Nat) : Nat := if i = 2 then 12 else if i = 8 then 3 else if i = 9 then 5 else if i ≤ 34 then 6 else if i = 36 then 250 else if i = 38 then 12 else if i = 44 then 3 else if i ≤ 54 then 6 else if i = 56 then 60 else if i ≤ 356 then 6 else if i = 357 then 2 else if i ≤ 367 then 6 else if i = 368 then 2 else if i = 369 then 2 else if i = 371 then 5 else if i = 372 then 6 else if i = 373 then 5 else if i = 375 then 5 else if i = 376 then 6 else if i = 377 then 5 else if i = 378 then 5 else if i ≤ 383 then 6 else if i ≤ 387 then 20 else if i ≤ 390 then 64 else if i = 393 then 250 else if i = 394 then 12 else if i = 395 then 30 else if i = 396 then 3 else if i = 397 then 12 else if i = 398 then 30 else if i = 399 then 3 else if i = 400 then 31 else if i = 401 then 31 else if i = 402 then 62 else if i = 403 then 2 else if i = 404 then 1860 else if i = 405 then 5 else if i = 406 then 60 else if i = 407 then 5 else if i = 408 then 6 else 64
def yFk (c i x : Nat) : Option Nat := match c with
  | 3 => if x < 7 then some (i + 1 + x) else none
  | 9 => if x = 0 then some 1 else if x < 5 then some (i + x) else none
  | 14 => if i = 9 then (if x < 5 then some (10 + 5 * x) else none) else if i = 56 then (if x < 60 then some (57 + 5 * x) else none) else (if x < 2 then some (358 + 5 * x) else none)
  | 6 => if x = 0 then some 36 else if x = 1 then some 37 else none
  | 5 => if x = 0 then some 56 else none
  | 8 => if x = 0 then some 1 else if x = 1 then some 9 else if x = 2 then some 371 else if x = 3 then some 372 else if x = 5 then some 373 else none
  | 7 => if x = 0 then some 1 else if x = 1 then some 9 else if x = 2 then some 375 else if x = 3 then some 376 else if x = 5 then some 377 else if x = 6 then some 378 else none
  | 1 => if x = 0 then some 1 else if x < 5 then some (379 + x) else none
  | 0 => if x < 3 then some (385 + x) else none
  | 2 => if x = 0 then some 1 else if x = 1 then some 389 else if x = 2 then some 390 else none
  | 10 => if x = 0 then some 1 else if x = 1 then some 35 else if x = 2 then some 45 else if x = 3 then some 50 else if x = 4 then some 55 else if x = 5 then some 357 else if x = 6 then some 368 else if x = 7 then some 369 else if x = 8 then some 370 else if x = 9 then some 374 else if x = 10 then some 379 else if x = 11 then some 384 else if x = 12 then some 388 else if x = 13 then some 391 else none
  | 11 => if x = 1 then some 393 else if x = 9 then some 394 else if x = 11 then some 395 else if x = 12 then some 396 else if x = 18 then some 397 else if x = 20 then some 398 else if x = 21 then some 399 else if x = 22 then some 400 else if x = 23 then some 401 else if x = 24 then some 402 else if x = 25 then some 403 else if x = 27 then some 404 else if x = 29 then some 405 else if x = 31 then some 406 else if x = 32 then some 407 else if x = 33 then some 408 else if x = 34 then some 409 else none
  | _ => none
def yF (i x : Nat) : Option Nat := yFk (yK i) i x
def yEdge (k : Nat) : Prop := yK k = 3 ∧ ∀ m, m < 7 → yK (k + 1 + m) = 12 ∧ yL (k + 1 + m) = if m = 0 then 12 else if m = 6 then 3 else 6
def ySky (k : Nat) : Prop := 8 < k ∧ yK k = 9 ∧ ∀ m, m < 4 → yK (k + 1 + m) = 12 ∧ yL (k + 1 + m) = 6
theorem yEdge_1 : yEdge 1 := ⟨by decide +kernel, by decide +kernel⟩
theorem yEdge_37 : yEdge 37 := ⟨by decide +kernel, by decide +kernel⟩
theorem ySky_10 : ∀ d, d < 5 → ySky (10 + 5 * d) := fun d hd => ⟨by omega, (show ∀ d, d < 5 → yK (10 + 5 * d) = 9 by decide +kernel) d hd, (show ∀ d, d < 5 → ∀ m, m < 4 → yK (10 + 5 * d + 1 + m) = 12 ∧ yL (10 + 5 * d + 1 + m) = 6 by decide +kernel) d hd⟩
theorem ySky_57 : ∀ d, d < 60 → ySky (57 + 5 * d) := fun d hd => ⟨by omega, (show ∀ d, d < 60 → yK (57 + 5 * d) = 9 by decide +kernel) d hd, (show ∀ d, d < 60 → ∀ m, m < 4 → yK (57 + 5 * d + 1 + m) = 12 ∧ yL (57 + 5 * d + 1 + m) = 6 by decide +kernel) d hd⟩
theorem ySky_358 : ∀ d, d < 2 → ySky (358 + 5 * d) := fun d hd => ⟨by omega, (show ∀ d, d < 2 → yK (358 + 5 * d) = 9 by decide +kernel) d hd, (show ∀ d, d < 2 → ∀ m, m < 4 → yK (358 + 5 * d + 1 + m) = 12 ∧ yL (358 + 5 * d + 1 + m) = 6 by decide +kernel) d hd⟩
theorem ySky_45 : ySky 45 := ⟨by omega, by decide +kernel, by decide +kernel⟩
theorem ySky_50 : ySky 50 := ⟨by omega, by decide +kernel, by decide +kernel⟩
/-- a constructor's start: its object is the newest cell -/
def sy_A0 (E : sy_ET) (S : sy_St) (k : Nat) : Prop := sy_n E = k + 1 ∧ sy_k E = yK ∧ sy_l E = yL ∧ sy_clo E ∧ (∀ i j, k ≤ i → sy_r E i j = none) ∧ ∀ i, k ≤ i → S i = fun _ => 0
/-- the references behind it: all cells up to n as they shall be -/
def yR (E : sy_ET) (k n : Nat) : Nat → Nat → Option Nat := fun i x => if k ≤ i ∧ i < n then yF i x else sy_r E i x
theorem yOEdge {E : sy_ET} {k : Nat} (hk : yEdge k) (hn : k + 7 < sy_n E) (hK : sy_k E = yK) (hL : sy_l E = yL) (hr : ∀ j, j < 7 → sy_r E k j = some (k + 1 + j)) : sy_OEdge E k := by
  have a : ∀ m, m < 7 → sy_isI E (k + 1 + m) (if m = 0 then 12 else if m = 6 then 3 else 6) := fun m hm => ⟨by omega, by rw [hK]; exact (hk.2 m hm).1, by rw [hL]; exact (hk.2 m hm).2⟩
  exact ⟨⟨by omega, by rw [hK]; exact hk.1⟩, hr 0 (by omega), a 0 (by omega), hr 1 (by omega), a 1 (by omega), hr 2 (by omega), a 2 (by omega), hr 3 (by omega), a 3 (by omega), hr 4 (by omega), a 4 (by omega), hr 5 (by omega), a 5 (by omega), hr 6 (by omega), a 6 (by omega)⟩
theorem yOSky {E : sy_ET} {k : Nat} (hk : ySky k) (hE : sy_OEdge E 1) (hn : k + 4 < sy_n E) (hK : sy_k E = yK) (hL : sy_l E = yL) (hr0 : sy_r E k 0 = some 1) (hr : ∀ j, j < 4 → sy_r E k (j + 1) = some (k + (j + 1))) : sy_OSky E k := by
  have a : ∀ m, m < 4 → sy_isI E (k + 1 + m) 6 := fun m hm => ⟨by omega, by rw [hK]; exact (hk.2.2 m hm).1, by rw [hL]; exact (hk.2.2 m hm).2⟩
  exact ⟨⟨by omega, by rw [hK]; exact hk.2.1⟩, hr0, hE, hr 0 (by omega), a 0 (by omega), hr 1 (by omega), a 1 (by omega), hr 2 (by omega), a 2 (by omega), hr 3 (by omega), a 3 (by omega)⟩
set_option maxRecDepth 100000 in
set_option maxHeartbeats 40000000 in
theorem k_Edge (l : Launch) {E0 : sy_ET} {S : sy_St} {k : Nat} {S1 : sy_St} {r : Int32} (hk : yEdge k) (hc : m_Edge_clear k S = some (r, S1)) (h0 : sy_A0 E0 S k) : sy_MC l yX3_init cX3_init 1 2 43 7 45 [.ref (sy_ad E0 k)] E0 S 7 (yR E0 k (k + 8)) (fun S2 => S2 = S1) := by
  refine sy_MC_of RX3 pn_3 rfl rfl (Nat.le_of_ble_eq_true rfl) (fun p e s m args below meth c A ls fx hr hlk hin hao hA X hl => ?_)
  have hx := fx.1
  have hb := fx.2.1
  have hl : lv_has ls 1 [(0, .ref (sy_ad E0 k))] := hl
  obtain ⟨n0, K0, L0, cl0, r0, z0⟩ := h0
  have KN : ∀ {E : sy_ET} {m : Nat} {rr : Nat → Nat → Option Nat}, sy_Q E0 E m rr → sy_n E = k + 1 + m ∧ sy_k E (sy_n E) = yK (k + 1 + m) ∧ sy_l E (sy_n E) = yL (k + 1 + m) ∧ sy_clo E ∧ ∀ i, i ≤ k → sy_ad E i = sy_ad E0 i := fun h => by
    have hn := h.1
    rw [n0] at hn
    exact ⟨hn, by rw [h.2.1, K0, hn], by rw [h.2.2.1, L0, hn], h.2.2.2.2.2.2.2.2.2, fun i hi => h.2.2.2.2.2.2.2.1 i (by omega)⟩
  have IO : ∀ {E : sy_ET} {m : Nat} {rr : Nat → Nat → Option Nat}, sy_Q E0 E m rr → sy_isO E 3 k := fun h => ⟨by rw [(KN h).1]; omega, by rw [h.2.1, K0]; exact hk.1⟩
  have hQ := sy_Q_0 cl0
  refine lv_aload_n hx hb dX3_init_0 rfl (lv_at hl 0 rfl) ?_
  refine sy_obj0 (rest := []) fx hl.1 wm_63 dX3_init_1 (Nat.le_of_ble_eq_true rfl) (Nat.le_of_ble_eq_true rfl) ?_
  refine lv_aload_n hx hb dX3_init_4 rfl (lv_at hl 0 rfl) ?_
  refine lv_bipush (v := 12) hx hb dX3_init_5 (by decide) ?_
  obtain ⟨n1, k1, l1, c1, a1⟩ := KN hQ
  refine sy_newI fx hA X c1 (N := 12) (by rw [k1]; exact (hk.2 0 (by decide)).1) (by rw [l1]; exact (hk.2 0 (by decide)).2) (z0 _ (by omega)) (by decide) rfl (Nat.le_of_ble_eq_true rfl) (Nat.le_of_ble_eq_true rfl) (Nat.le_of_ble_eq_true rfl) dX3_init_7 (fun q H X => ?_)
  have hq2 := sy_ne_q (E := E0) (q := q)
  rw [n1] at hq2
  have hQ := sy_Q_n (q := q) hQ
  refine sy_h3 fx hin X (IO hQ) 0 (by decide) wm_64 (fun _ h9 => h9) rfl rfl (ty := .array .int) (by decide +kernel) rfl rfl ((KN hQ).2.2.2.2 k (Nat.le_refl _)) (a := k + 1 + 0) hq2 (by simp [sy_f3, sy_rv_rs]) dX3_init_9 (fun H locs X => ?_)
  have hQ := sy_Q_r (k := k) (j := 0) (a := k + 1 + 0) hQ (by rw [(KN hQ).1]; omega)
  generalize sy_rs (sy_ne E0 q) k 0 (k + 1 + 0) = E at X hQ
  refine lv_aload_n hx hb dX3_init_12 rfl (lv_at hl 0 rfl) ?_
  refine lv_bipush (v := 6) hx hb dX3_init_13 (by decide) ?_
  obtain ⟨n1, k1, l1, c1, a1⟩ := KN hQ
  refine sy_newI fx hA X c1 (N := 6) (by rw [k1]; exact (hk.2 1 (by decide)).1) (by rw [l1]; exact (hk.2 1 (by decide)).2) (z0 _ (by omega)) (by decide) rfl (Nat.le_of_ble_eq_true rfl) (Nat.le_of_ble_eq_true rfl) (Nat.le_of_ble_eq_true rfl) dX3_init_15 (fun q H X => ?_)
  have hq2 := sy_ne_q (E := E) (q := q)
  rw [n1] at hq2
  have hQ := sy_Q_n (q := q) hQ
  refine sy_h3 fx hin X (IO hQ) 1 (by decide) wm_65 (fun _ h9 => h9) rfl rfl (ty := .array .int) (by decide +kernel) rfl rfl ((KN hQ).2.2.2.2 k (Nat.le_refl _)) (a := k + 1 + 1) hq2 (by simp [sy_f3, sy_rv_rs]) dX3_init_17 (fun H locs X => ?_)
  have hQ := sy_Q_r (k := k) (j := 1) (a := k + 1 + 1) hQ (by rw [(KN hQ).1]; omega)
  generalize sy_rs (sy_ne E q) k 1 (k + 1 + 1) = E at X hQ
  refine lv_aload_n hx hb dX3_init_20 rfl (lv_at hl 0 rfl) ?_
  refine lv_bipush (v := 6) hx hb dX3_init_21 (by decide) ?_
  obtain ⟨n1, k1, l1, c1, a1⟩ := KN hQ
  refine sy_newI fx hA X c1 (N := 6) (by rw [k1]; exact (hk.2 2 (by decide)).1) (by rw [l1]; exact (hk.2 2 (by decide)).2) (z0 _ (by omega)) (by decide) rfl (Nat.le_of_ble_eq_true rfl) (Nat.le_of_ble_eq_true rfl) (Nat.le_of_ble_eq_true rfl) dX3_init_23 (fun q H X => ?_)
  have hq2 := sy_ne_q (E := E) (q := q)
  rw [n1] at hq2
  have hQ := sy_Q_n (q := q) hQ
  refine sy_h3 fx hin X (IO hQ) 2 (by decide) wm_66 (fun _ h9 => h9) rfl rfl (ty := .array .int) (by decide +kernel) rfl rfl ((KN hQ).2.2.2.2 k (Nat.le_refl _)) (a := k + 1 + 2) hq2 (by simp [sy_f3, sy_rv_rs]) dX3_init_25 (fun H locs X => ?_)
  have hQ := sy_Q_r (k := k) (j := 2) (a := k + 1 + 2) hQ (by rw [(KN hQ).1]; omega)
  generalize sy_rs (sy_ne E q) k 2 (k + 1 + 2) = E at X hQ
  refine lv_aload_n hx hb dX3_init_28 rfl (lv_at hl 0 rfl) ?_
  refine lv_bipush (v := 6) hx hb dX3_init_29 (by decide) ?_
  obtain ⟨n1, k1, l1, c1, a1⟩ := KN hQ
  refine sy_newI fx hA X c1 (N := 6) (by rw [k1]; exact (hk.2 3 (by decide)).1) (by rw [l1]; exact (hk.2 3 (by decide)).2) (z0 _ (by omega)) (by decide) rfl (Nat.le_of_ble_eq_true rfl) (Nat.le_of_ble_eq_true rfl) (Nat.le_of_ble_eq_true rfl) dX3_init_31 (fun q H X => ?_)
  have hq2 := sy_ne_q (E := E) (q := q)
  rw [n1] at hq2
  have hQ := sy_Q_n (q := q) hQ
  refine sy_h3 fx hin X (IO hQ) 3 (by decide) wm_67 (fun _ h9 => h9) rfl rfl (ty := .array .int) (by decide +kernel) rfl rfl ((KN hQ).2.2.2.2 k (Nat.le_refl _)) (a := k + 1 + 3) hq2 (by simp [sy_f3, sy_rv_rs]) dX3_init_33 (fun H locs X => ?_)
  have hQ := sy_Q_r (k := k) (j := 3) (a := k + 1 + 3) hQ (by rw [(KN hQ).1]; omega)
  generalize sy_rs (sy_ne E q) k 3 (k + 1 + 3) = E at X hQ
  refine lv_aload_n hx hb dX3_init_36 rfl (lv_at hl 0 rfl) ?_
  refine lv_bipush (v := 6) hx hb dX3_init_37 (by decide) ?_
  obtain ⟨n1, k1, l1, c1, a1⟩ := KN hQ
  refine sy_newI fx hA X c1 (N := 6) (by rw [k1]; exact (hk.2 4 (by decide)).1) (by rw [l1]; exact (hk.2 4 (by decide)).2) (z0 _ (by omega)) (by decide) rfl (Nat.le_of_ble_eq_true rfl) (Nat.le_of_ble_eq_true rfl) (Nat.le_of_ble_eq_true rfl) dX3_init_39 (fun q H X => ?_)
  have hq2 := sy_ne_q (E := E) (q := q)
  rw [n1] at hq2
  have hQ := sy_Q_n (q := q) hQ
  refine sy_h3 fx hin X (IO hQ) 4 (by decide) wm_68 (fun _ h9 => h9) rfl rfl (ty := .array .int) (by decide +kernel) rfl rfl ((KN hQ).2.2.2.2 k (Nat.le_refl _)) (a := k + 1 + 4) hq2 (by simp [sy_f3, sy_rv_rs]) dX3_init_41 (fun H locs X => ?_)
  have hQ := sy_Q_r (k := k) (j := 4) (a := k + 1 + 4) hQ (by rw [(KN hQ).1]; omega)
  generalize sy_rs (sy_ne E q) k 4 (k + 1 + 4) = E at X hQ
  refine lv_aload_n hx hb dX3_init_44 rfl (lv_at hl 0 rfl) ?_
  refine lv_bipush (v := 6) hx hb dX3_init_45 (by decide) ?_
  obtain ⟨n1, k1, l1, c1, a1⟩ := KN hQ
  refine sy_newI fx hA X c1 (N := 6) (by rw [k1]; exact (hk.2 5 (by decide)).1) (by rw [l1]; exact (hk.2 5 (by decide)).2) (z0 _ (by omega)) (by decide) rfl (Nat.le_of_ble_eq_true rfl) (Nat.le_of_ble_eq_true rfl) (Nat.le_of_ble_eq_true rfl) dX3_init_47 (fun q H X => ?_)
  have hq2 := sy_ne_q (E := E) (q := q)
  rw [n1] at hq2
  have hQ := sy_Q_n (q := q) hQ
  refine sy_h3 fx hin X (IO hQ) 5 (by decide) wm_69 (fun _ h9 => h9) rfl rfl (ty := .array .int) (by decide +kernel) rfl rfl ((KN hQ).2.2.2.2 k (Nat.le_refl _)) (a := k + 1 + 5) hq2 (by simp [sy_f3, sy_rv_rs]) dX3_init_49 (fun H locs X => ?_)
  have hQ := sy_Q_r (k := k) (j := 5) (a := k + 1 + 5) hQ (by rw [(KN hQ).1]; omega)
  generalize sy_rs (sy_ne E q) k 5 (k + 1 + 5) = E at X hQ
  refine lv_aload_n hx hb dX3_init_52 rfl (lv_at hl 0 rfl) ?_
  refine lv_iconst (v := 3) hx hb dX3_init_53 (by decide) ?_
  obtain ⟨n1, k1, l1, c1, a1⟩ := KN hQ
  refine sy_newI fx hA X c1 (N := 3) (by rw [k1]; exact (hk.2 6 (by decide)).1) (by rw [l1]; exact (hk.2 6 (by decide)).2) (z0 _ (by omega)) (by decide) rfl (Nat.le_of_ble_eq_true rfl) (Nat.le_of_ble_eq_true rfl) (Nat.le_of_ble_eq_true rfl) dX3_init_54 (fun q H X => ?_)
  have hq2 := sy_ne_q (E := E) (q := q)
  rw [n1] at hq2
  have hQ := sy_Q_n (q := q) hQ
  refine sy_h3 fx hin X (IO hQ) 6 (by decide) wm_70 (fun _ h9 => h9) rfl rfl (ty := .array .int) (by decide +kernel) rfl rfl ((KN hQ).2.2.2.2 k (Nat.le_refl _)) (a := k + 1 + 6) hq2 (by simp [sy_f3, sy_rv_rs]) dX3_init_56 (fun H locs X => ?_)
  have hQ := sy_Q_r (k := k) (j := 6) (a := k + 1 + 6) hQ (by rw [(KN hQ).1]; omega)
  generalize sy_rs (sy_ne E q) k 6 (k + 1 + 6) = E at X hQ
  refine lv_aload_n hx hb dX3_init_59 rfl (lv_at hl 0 rfl) ?_
  have rk : ∀ j, j < 7 → sy_r E k j = some (k + 1 + j) := fun j hj => by
    rw [hQ.2.2.2.2.2.2.2.2.1]
    have : j = 0 ∨ j = 1 ∨ j = 2 ∨ j = 3 ∨ j = 4 ∨ j = 5 ∨ j = 6 := by omega
    rcases this with rfl | rfl | rfl | rfl | rfl | rfl | rfl <;> simp
  have ht : sy_OEdge E k := yOEdge hk (by rw [(KN hQ).1]; omega) (by rw [hQ.2.1, K0]) (by rw [hQ.2.2.1, L0]) rk
  refine sy_vv (rest := []) fx hA X hl.1 (sy_OEdge_o ht) (sy_en3 (sy_OEdge_o ht).2) rfl (c_Edge_clear l ht hc) cv_Edge_clear wm_71 ⟨Nat.le_of_ble_eq_true rfl, Nat.le_of_ble_eq_true rfl, Nat.le_of_ble_eq_true rfl, Nat.le_of_ble_eq_true rfl⟩ rfl (by rw [(KN hQ).2.2.2.2 k (Nat.le_refl _)]; rfl) (Nat.le_of_ble_eq_true rfl) dX3_init_60 (fun H locs X => ?_)
  refine sy_cret fx X hr hlk (sy_Q_c hQ rfl ?_) rfl (Nat.le_of_ble_eq_true rfl) (Nat.le_of_ble_eq_true rfl) dX3_init_63
  funext i x
  unfold yR
  by_cases hi : k ≤ i ∧ i < k + 8
  · rw [if_pos hi]
    by_cases hik : i = k
    · subst hik
      simp only [true_and]
      unfold yF; rw [hk.1]
      by_cases hx : x < 7
      · have : x = 0 ∨ x = 1 ∨ x = 2 ∨ x = 3 ∨ x = 4 ∨ x = 5 ∨ x = 6 := by omega
        rcases this with rfl | rfl | rfl | rfl | rfl | rfl | rfl <;> simp [yFk, r0]
      · simp only [show ¬ x = 0 by omega, show ¬ x = 1 by omega, show ¬ x = 2 by omega, show ¬ x = 3 by omega, show ¬ x = 4 by omega, show ¬ x = 5 by omega, show ¬ x = 6 by omega, if_false]
        rw [r0 _ _ (Nat.le_refl _)]
        exact (if_neg hx).symm
    · simp only [hik, false_and, if_false]
      rw [r0 i x (by omega)]
      unfold yF; rw [show i = k + 1 + (i - k - 1) by omega, (hk.2 (i - k - 1) (by omega)).1]; rfl
  · have hik : ¬ i = k := by omega
    rw [if_neg hi]
    simp only [hik, false_and, if_false]
set_option maxRecDepth 100000 in
set_option maxHeartbeats 40000000 in
theorem k_Sky (l : Launch) {E0 : sy_ET} {S : sy_St} {k : Nat} {S1 : sy_St} {r : Int32} (hk : ySky k) (hE : sy_OEdge E0 1) (hc : m_Sky_begin k S = some (r, S1)) (h0 : sy_A0 E0 S k) : sy_MC l yX10_init cX10_init 2 1 21 4 24 [.ref (sy_ad E0 k), .ref (sy_ad E0 1)] E0 S 4 (yR E0 k (k + 5)) (fun S2 => S2 = S1) := by
  refine sy_MC_of RX10 pn_10 rfl rfl (Nat.le_of_ble_eq_true rfl) (fun p e s m args below meth c A ls fx hr hlk hin hao hA X hl => ?_)
  have hx := fx.1
  have hb := fx.2.1
  have hl : lv_has ls 2 [(0, .ref (sy_ad E0 k)), (1, .ref (sy_ad E0 1))] := hl
  obtain ⟨n0, K0, L0, cl0, r0, z0⟩ := h0
  have KN : ∀ {E : sy_ET} {m : Nat} {rr : Nat → Nat → Option Nat}, sy_Q E0 E m rr → sy_n E = k + 1 + m ∧ sy_k E (sy_n E) = yK (k + 1 + m) ∧ sy_l E (sy_n E) = yL (k + 1 + m) ∧ sy_clo E ∧ ∀ i, i ≤ k → sy_ad E i = sy_ad E0 i := fun h => by
    have hn := h.1
    rw [n0] at hn
    exact ⟨hn, by rw [h.2.1, K0, hn], by rw [h.2.2.1, L0, hn], h.2.2.2.2.2.2.2.2.2, fun i hi => h.2.2.2.2.2.2.2.1 i (by omega)⟩
  have IO : ∀ {E : sy_ET} {m : Nat} {rr : Nat → Nat → Option Nat}, sy_Q E0 E m rr → sy_isO E 9 k := fun h => ⟨by rw [(KN h).1]; omega, by rw [h.2.1, K0]; exact hk.2.1⟩
  have hQ := sy_Q_0 cl0
  have k8 := hk.1
  refine lv_aload_n hx hb dX10_init_0 rfl (lv_at hl 0 rfl) ?_
  refine sy_obj0 (rest := []) fx hl.1 wm_85 dX10_init_1 (Nat.le_of_ble_eq_true rfl) (Nat.le_of_ble_eq_true rfl) ?_
  refine lv_aload_n hx hb dX10_init_4 rfl (lv_at hl 0 rfl) ?_
  refine lv_bipush (v := 6) hx hb dX10_init_5 (by decide) ?_
  obtain ⟨n1, k1, l1, c1, a1⟩ := KN hQ
  refine sy_newI fx hA X c1 (N := 6) (by rw [k1]; exact (hk.2.2 0 (by decide)).1) (by rw [l1]; exact (hk.2.2 0 (by decide)).2) (z0 _ (by omega)) (by decide) rfl (Nat.le_of_ble_eq_true rfl) (Nat.le_of_ble_eq_true rfl) (Nat.le_of_ble_eq_true rfl) dX10_init_7 (fun q H X => ?_)
  have hq2 := sy_ne_q (E := E0) (q := q)
  rw [n1] at hq2
  have hQ := sy_Q_n (q := q) hQ
  refine sy_h9 fx hin X (IO hQ) 1 (by decide) wm_86 (fun _ h9 => h9) rfl rfl (ty := .array .int) (by decide +kernel) rfl rfl ((KN hQ).2.2.2.2 k (Nat.le_refl _)) (a := k + 1 + 0) hq2 (by simp [sy_f9, sy_rv_rs]) dX10_init_9 (fun H locs X => ?_)
  have hQ := sy_Q_r (k := k) (j := 1) (a := k + 1 + 0) hQ (by rw [(KN hQ).1]; omega)
  generalize sy_rs (sy_ne E0 q) k 1 (k + 1 + 0) = E at X hQ
  refine lv_aload_n hx hb dX10_init_12 rfl (lv_at hl 0 rfl) ?_
  refine lv_bipush (v := 6) hx hb dX10_init_13 (by decide) ?_
  obtain ⟨n1, k1, l1, c1, a1⟩ := KN hQ
  refine sy_newI fx hA X c1 (N := 6) (by rw [k1]; exact (hk.2.2 1 (by decide)).1) (by rw [l1]; exact (hk.2.2 1 (by decide)).2) (z0 _ (by omega)) (by decide) rfl (Nat.le_of_ble_eq_true rfl) (Nat.le_of_ble_eq_true rfl) (Nat.le_of_ble_eq_true rfl) dX10_init_15 (fun q H X => ?_)
  have hq2 := sy_ne_q (E := E) (q := q)
  rw [n1] at hq2
  have hQ := sy_Q_n (q := q) hQ
  refine sy_h9 fx hin X (IO hQ) 2 (by decide) wm_87 (fun _ h9 => h9) rfl rfl (ty := .array .int) (by decide +kernel) rfl rfl ((KN hQ).2.2.2.2 k (Nat.le_refl _)) (a := k + 1 + 1) hq2 (by simp [sy_f9, sy_rv_rs]) dX10_init_17 (fun H locs X => ?_)
  have hQ := sy_Q_r (k := k) (j := 2) (a := k + 1 + 1) hQ (by rw [(KN hQ).1]; omega)
  generalize sy_rs (sy_ne E q) k 2 (k + 1 + 1) = E at X hQ
  refine lv_aload_n hx hb dX10_init_20 rfl (lv_at hl 0 rfl) ?_
  refine lv_bipush (v := 6) hx hb dX10_init_21 (by decide) ?_
  obtain ⟨n1, k1, l1, c1, a1⟩ := KN hQ
  refine sy_newI fx hA X c1 (N := 6) (by rw [k1]; exact (hk.2.2 2 (by decide)).1) (by rw [l1]; exact (hk.2.2 2 (by decide)).2) (z0 _ (by omega)) (by decide) rfl (Nat.le_of_ble_eq_true rfl) (Nat.le_of_ble_eq_true rfl) (Nat.le_of_ble_eq_true rfl) dX10_init_23 (fun q H X => ?_)
  have hq2 := sy_ne_q (E := E) (q := q)
  rw [n1] at hq2
  have hQ := sy_Q_n (q := q) hQ
  refine sy_h9 fx hin X (IO hQ) 3 (by decide) wm_88 (fun _ h9 => h9) rfl rfl (ty := .array .int) (by decide +kernel) rfl rfl ((KN hQ).2.2.2.2 k (Nat.le_refl _)) (a := k + 1 + 2) hq2 (by simp [sy_f9, sy_rv_rs]) dX10_init_25 (fun H locs X => ?_)
  have hQ := sy_Q_r (k := k) (j := 3) (a := k + 1 + 2) hQ (by rw [(KN hQ).1]; omega)
  generalize sy_rs (sy_ne E q) k 3 (k + 1 + 2) = E at X hQ
  refine lv_aload_n hx hb dX10_init_28 rfl (lv_at hl 0 rfl) ?_
  refine lv_bipush (v := 6) hx hb dX10_init_29 (by decide) ?_
  obtain ⟨n1, k1, l1, c1, a1⟩ := KN hQ
  refine sy_newI fx hA X c1 (N := 6) (by rw [k1]; exact (hk.2.2 3 (by decide)).1) (by rw [l1]; exact (hk.2.2 3 (by decide)).2) (z0 _ (by omega)) (by decide) rfl (Nat.le_of_ble_eq_true rfl) (Nat.le_of_ble_eq_true rfl) (Nat.le_of_ble_eq_true rfl) dX10_init_31 (fun q H X => ?_)
  have hq2 := sy_ne_q (E := E) (q := q)
  rw [n1] at hq2
  have hQ := sy_Q_n (q := q) hQ
  refine sy_h9 fx hin X (IO hQ) 4 (by decide) wm_89 (fun _ h9 => h9) rfl rfl (ty := .array .int) (by decide +kernel) rfl rfl ((KN hQ).2.2.2.2 k (Nat.le_refl _)) (a := k + 1 + 3) hq2 (by simp [sy_f9, sy_rv_rs]) dX10_init_33 (fun H locs X => ?_)
  have hQ := sy_Q_r (k := k) (j := 4) (a := k + 1 + 3) hQ (by rw [(KN hQ).1]; omega)
  generalize sy_rs (sy_ne E q) k 4 (k + 1 + 3) = E at X hQ
  refine lv_aload_n hx hb dX10_init_36 rfl (lv_at hl 0 rfl) ?_
  refine lv_aload_n hx hb dX10_init_37 rfl (lv_at hl 1 rfl) ?_
  refine sy_h9 fx hin X (IO hQ) 0 (by decide) wm_90 (fun _ h9 => h9) rfl rfl (ty := .object "SkyTurns$Edge") (by decide +kernel) rfl rfl ((KN hQ).2.2.2.2 k (Nat.le_refl _)) (a := 1) ((KN hQ).2.2.2.2 1 (by omega)) (by simp [sy_f9, sy_rv_rs]) dX10_init_38 (fun H locs X => ?_)
  have hQ := sy_Q_r (k := k) (j := 0) (a := 1) hQ (by rw [(KN hQ).1]; omega)
  generalize sy_rs E k 0 1 = E at X hQ
  refine lv_aload_n hx hb dX10_init_41 rfl (lv_at hl 0 rfl) ?_
  have re : ∀ i j, i ≠ k → sy_r E i j = sy_r E0 i j := fun i j hi => by
    rw [hQ.2.2.2.2.2.2.2.2.1]
    simp only [hi, false_and, if_false]
  have rk : ∀ j, j < 4 → sy_r E k (j + 1) = some (k + (j + 1)) := fun j hj => by
    rw [hQ.2.2.2.2.2.2.2.2.1]
    have : j = 0 ∨ j = 1 ∨ j = 2 ∨ j = 3 := by omega
    rcases this with rfl | rfl | rfl | rfl <;> simp <;> omega
  have hE1 : sy_OEdge E 1 := yOEdge yEdge_1 (by rw [(KN hQ).1]; omega) (by rw [hQ.2.1, K0]) (by rw [hQ.2.2.1, L0]) (fun j hj => by
    rw [re 1 j (by omega)]
    have : j = 0 ∨ j = 1 ∨ j = 2 ∨ j = 3 ∨ j = 4 ∨ j = 5 ∨ j = 6 := by omega
    rcases this with rfl | rfl | rfl | rfl | rfl | rfl | rfl
    · exact sy_OEdge_r0 hE
    · exact sy_OEdge_r1 hE
    · exact sy_OEdge_r2 hE
    · exact sy_OEdge_r3 hE
    · exact sy_OEdge_r4 hE
    · exact sy_OEdge_r5 hE
    · exact sy_OEdge_r6 hE)
  have ht : sy_OSky E k := yOSky hk hE1 (by rw [(KN hQ).1]; omega) (by rw [hQ.2.1, K0]) (by rw [hQ.2.2.1, L0]) (by rw [hQ.2.2.2.2.2.2.2.2.1]; simp) rk
  refine sy_vv (rest := []) fx hA X hl.1 (sy_OSky_o ht) (sy_en9 (sy_OSky_o ht).2) rfl (c_Sky_begin l ht hc) cv_Sky_begin wm_91 ⟨Nat.le_of_ble_eq_true rfl, Nat.le_of_ble_eq_true rfl, Nat.le_of_ble_eq_true rfl, Nat.le_of_ble_eq_true rfl⟩ rfl (by rw [(KN hQ).2.2.2.2 k (Nat.le_refl _)]; rfl) (Nat.le_of_ble_eq_true rfl) dX10_init_42 (fun H locs X => ?_)
  refine sy_cret fx X hr hlk (sy_Q_c hQ rfl ?_) rfl (Nat.le_of_ble_eq_true rfl) (Nat.le_of_ble_eq_true rfl) dX10_init_45
  funext i x
  unfold yR
  by_cases hi : k ≤ i ∧ i < k + 5
  · rw [if_pos hi]
    by_cases hik : i = k
    · subst hik
      simp only [true_and]
      unfold yF; rw [hk.2.1]
      by_cases hx : x < 5
      · have : x = 0 ∨ x = 1 ∨ x = 2 ∨ x = 3 ∨ x = 4 := by omega
        rcases this with rfl | rfl | rfl | rfl | rfl <;> simp [yFk, r0, Nat.add_assoc]
      · simp only [show ¬ x = 0 by omega, show ¬ x = 1 by omega, show ¬ x = 2 by omega, show ¬ x = 3 by omega, show ¬ x = 4 by omega, if_false]
        rw [r0 _ _ (Nat.le_refl _)]
        show none = (if x = 0 then _ else if x < 5 then _ else none); rw [if_neg (by omega), if_neg (by omega)]
    · simp only [hik, false_and, if_false]
      rw [r0 i x (by omega)]
      unfold yF; rw [show i = k + 1 + (i - k - 1) by omega, (hk.2.2 (i - k - 1) (by omega)).1]; rfl
  · have hik : ¬ i = k := by omega
    rw [if_neg hi]
    simp only [hik, false_and, if_false]
