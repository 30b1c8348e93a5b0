/-! ===== the smaller constructors ===== -/
theorem ci_Edge : sy_cI yX3_init cX3_init 1 0 := ⟨wm_61, wm_14, wm_62, rfl, by decide +kernel⟩
theorem ci_Sky : sy_cI yX10_init cX10_init 2 1 := ⟨wm_83, wm_17, wm_84, rfl, by decide +kernel⟩
theorem ci_Chain : sy_cI yX1_init cX1_init 2 1 := ⟨wm_138, wm_44, wm_139, rfl, by decide +kernel⟩
theorem ci_Book : sy_cI yX0_init cX0_init 1 0 := ⟨wm_146, wm_48, wm_147, rfl, by decide +kernel⟩
theorem ci_Debts : sy_cI yX2_init cX2_init 2 1 := ⟨wm_153, wm_52, wm_154, rfl, by decide +kernel⟩
theorem ci_Game : sy_cI yX4_init cX4_init 1 0 := ⟨wm_159, wm_56, wm_160, rfl, by decide +kernel⟩
theorem ci_Rows : sy_cI yX7_init cX7_init 3 2 := ⟨wm_123, wm_124, wm_125, rfl, by decide +kernel⟩
theorem ci_Seen : sy_cI yX8_init cX8_init 3 2 := ⟨wm_132, wm_40, wm_133, rfl, by decide +kernel⟩
theorem ci_Shift : sy_cI yX9_init cX9_init 3 2 := ⟨wm_119, wm_36, wm_120, rfl, by decide +kernel⟩
theorem ci_Reader : sy_cI yX6_init cX6_init 1 0 := ⟨wm_103, wm_21, wm_104, rfl, by decide +kernel⟩
theorem ci_Past : sy_cI yX5_init cX5_init 3 1 := ⟨wm_112, wm_27, wm_113, rfl, by decide +kernel⟩
set_option maxRecDepth 100000 in
set_option maxHeartbeats 40000000 in
theorem k_Chain (l : Launch) {E0 : sy_ET} {S : sy_St}  (h0 : sy_A0 E0 S 379) : sy_MC l yX1_init cX1_init 2 1 12 4 24 [.ref (sy_ad E0 379), .ref (sy_ad E0 1)] E0 S 4 (yR E0 379 384) (fun S2 => S2 = S) := by
  refine sy_MC_of RX1 pn_1 rfl rfl (Nat.le_of_ble_eq_true rfl) (fun p e s m args below meth c A ls fx hr hlk hin hao hA X hl => ?_)
  have hx := fx.1
  have hb := fx.2.1
  have hl : lv_has ls 2 [(0, .ref (sy_ad E0 379)), (1, .ref (sy_ad E0 1))] := hl
  obtain ⟨n0, K0, L0, cl0, r0, z0⟩ := h0
  have KN : ∀ {E : sy_ET} {m : Nat} {rr : Nat → Nat → Option Nat}, sy_Q E0 E m rr → sy_n E = 379 + 1 + m ∧ sy_k E (sy_n E) = yK (379 + 1 + m) ∧ sy_l E (sy_n E) = yL (379 + 1 + m) ∧ sy_clo E ∧ ∀ i, i ≤ 379 → sy_ad E i = sy_ad E0 i := fun h => by
    have hn := h.1
    rw [n0] at hn
    exact ⟨hn, by rw [h.2.1, K0, hn], by rw [h.2.2.1, L0, hn], h.2.2.2.2.2.2.2.2.2, fun i hi => h.2.2.2.2.2.2.2.1 i (by omega)⟩
  have IO : ∀ {E : sy_ET} {m : Nat} {rr : Nat → Nat → Option Nat}, sy_Q E0 E m rr → sy_isO E 1 379 := fun h => ⟨by rw [(KN h).1]; omega, by rw [h.2.1, K0]; decide +kernel⟩
  have hQ := sy_Q_0 cl0
  refine lv_aload_n hx hb dX1_init_0 rfl (lv_at hl 0 rfl) ?_
  refine sy_obj0 (rest := []) fx hl.1 wm_140 dX1_init_1 (Nat.le_of_ble_eq_true rfl) (Nat.le_of_ble_eq_true rfl) ?_
  refine lv_aload_n hx hb dX1_init_4 rfl (lv_at hl 0 rfl) ?_
  refine lv_bipush (v := 6) hx hb dX1_init_5 (by decide) ?_
  obtain ⟨n1, k1, l1, c1, a1⟩ := KN hQ
  refine sy_newZ fx hA X c1 (N := 6) (by rw [k1]; decide +kernel) (by rw [l1]; decide +kernel) (z0 _ (by omega)) (by decide) rfl (Nat.le_of_ble_eq_true rfl) (Nat.le_of_ble_eq_true rfl) (Nat.le_of_ble_eq_true rfl) dX1_init_7 (fun q H X => ?_)
  have hq2 := sy_ne_q (E := E0) (q := q)
  rw [n1] at hq2
  have hQ := sy_Q_n (q := q) hQ
  refine sy_h1 fx hin X (IO hQ) 1 (by decide) wm_141 (fun _ h9 => h9) rfl rfl (ty := .array .boolean) (by decide +kernel) rfl rfl ((KN hQ).2.2.2.2 379 (Nat.le_refl _)) (a := 379 + 1 + 0) hq2 (by simp [sy_f1, sy_rv_rs]) dX1_init_9 (fun H locs X => ?_)
  have hQ := sy_Q_r (k := 379) (j := 1) (a := 379 + 1 + 0) hQ (by rw [(KN hQ).1]; omega)
  generalize sy_rs (sy_ne E0 q) 379 1 (379 + 1 + 0) = E at X hQ
  refine lv_aload_n hx hb dX1_init_12 rfl (lv_at hl 0 rfl) ?_
  refine lv_bipush (v := 6) hx hb dX1_init_13 (by decide) ?_
  obtain ⟨n1, k1, l1, c1, a1⟩ := KN hQ
  refine sy_newZ fx hA X c1 (N := 6) (by rw [k1]; decide +kernel) (by rw [l1]; decide +kernel) (z0 _ (by omega)) (by decide) rfl (Nat.le_of_ble_eq_true rfl) (Nat.le_of_ble_eq_true rfl) (Nat.le_of_ble_eq_true rfl) dX1_init_15 (fun q H X => ?_)
  have hq2 := sy_ne_q (E := E) (q := q)
  rw [n1] at hq2
  have hQ := sy_Q_n (q := q) hQ
  refine sy_h1 fx hin X (IO hQ) 2 (by decide) wm_142 (fun _ h9 => h9) rfl rfl (ty := .array .boolean) (by decide +kernel) rfl rfl ((KN hQ).2.2.2.2 379 (Nat.le_refl _)) (a := 379 + 1 + 1) hq2 (by simp [sy_f1, sy_rv_rs]) dX1_init_17 (fun H locs X => ?_)
  have hQ := sy_Q_r (k := 379) (j := 2) (a := 379 + 1 + 1) hQ (by rw [(KN hQ).1]; omega)
  generalize sy_rs (sy_ne E q) 379 2 (379 + 1 + 1) = E at X hQ
  refine lv_aload_n hx hb dX1_init_20 rfl (lv_at hl 0 rfl) ?_
  refine lv_bipush (v := 6) hx hb dX1_init_21 (by decide) ?_
  obtain ⟨n1, k1, l1, c1, a1⟩ := KN hQ
  refine sy_newI fx hA X c1 (N := 6) (by rw [k1]; decide +kernel) (by rw [l1]; decide +kernel) (z0 _ (by omega)) (by decide) rfl (Nat.le_of_ble_eq_true rfl) (Nat.le_of_ble_eq_true rfl) (Nat.le_of_ble_eq_true rfl) dX1_init_23 (fun q H X => ?_)
  have hq2 := sy_ne_q (E := E) (q := q)
  rw [n1] at hq2
  have hQ := sy_Q_n (q := q) hQ
  refine sy_h1 fx hin X (IO hQ) 3 (by decide) wm_143 (fun _ h9 => h9) rfl rfl (ty := .array .int) (by decide +kernel) rfl rfl ((KN hQ).2.2.2.2 379 (Nat.le_refl _)) (a := 379 + 1 + 2) hq2 (by simp [sy_f1, sy_rv_rs]) dX1_init_25 (fun H locs X => ?_)
  have hQ := sy_Q_r (k := 379) (j := 3) (a := 379 + 1 + 2) hQ (by rw [(KN hQ).1]; omega)
  generalize sy_rs (sy_ne E q) 379 3 (379 + 1 + 2) = E at X hQ
  refine lv_aload_n hx hb dX1_init_28 rfl (lv_at hl 0 rfl) ?_
  refine lv_bipush (v := 6) hx hb dX1_init_29 (by decide) ?_
  obtain ⟨n1, k1, l1, c1, a1⟩ := KN hQ
  refine sy_newI fx hA X c1 (N := 6) (by rw [k1]; decide +kernel) (by rw [l1]; decide +kernel) (z0 _ (by omega)) (by decide) rfl (Nat.le_of_ble_eq_true rfl) (Nat.le_of_ble_eq_true rfl) (Nat.le_of_ble_eq_true rfl) dX1_init_31 (fun q H X => ?_)
  have hq2 := sy_ne_q (E := E) (q := q)
  rw [n1] at hq2
  have hQ := sy_Q_n (q := q) hQ
  refine sy_h1 fx hin X (IO hQ) 4 (by decide) wm_144 (fun _ h9 => h9) rfl rfl (ty := .array .int) (by decide +kernel) rfl rfl ((KN hQ).2.2.2.2 379 (Nat.le_refl _)) (a := 379 + 1 + 3) hq2 (by simp [sy_f1, sy_rv_rs]) dX1_init_33 (fun H locs X => ?_)
  have hQ := sy_Q_r (k := 379) (j := 4) (a := 379 + 1 + 3) hQ (by rw [(KN hQ).1]; omega)
  generalize sy_rs (sy_ne E q) 379 4 (379 + 1 + 3) = E at X hQ
  refine lv_aload_n hx hb dX1_init_36 rfl (lv_at hl 0 rfl) ?_
  refine lv_aload_n hx hb dX1_init_37 rfl (lv_at hl 1 rfl) ?_
  refine sy_h1 fx hin X (IO hQ) 0 (by decide) wm_145 (fun _ h9 => h9) rfl rfl (ty := .object "SkyTurns$Edge") (by decide +kernel) rfl rfl ((KN hQ).2.2.2.2 379 (Nat.le_refl _)) (a := 1) ((KN hQ).2.2.2.2 1 (by omega)) (by simp [sy_f1, sy_rv_rs]) dX1_init_38 (fun H locs X => ?_)
  have hQ := sy_Q_r (k := 379) (j := 0) (a := 1) hQ (by rw [(KN hQ).1]; omega)
  generalize sy_rs E 379 0 1 = E at X hQ
  refine sy_cret fx X hr hlk (sy_Q_c hQ rfl ?_) rfl (Nat.le_of_ble_eq_true rfl) (Nat.le_of_ble_eq_true rfl) dX1_init_41
  funext i x
  unfold yR
  by_cases hi : 379 ≤ i ∧ i < 384
  · rw [if_pos hi]
    by_cases hik : i = 379
    · subst hik
      simp only [true_and, r0 379 _ (Nat.le_refl _)]
      by_cases hx : x < 5
      · exact (show ∀ x, x < 5 → (if x = 0 then some (1) else if x = 4 then some (379 + 1 + 3) else if x = 3 then some (379 + 1 + 2) else if x = 2 then some (379 + 1 + 1) else if x = 1 then some (379 + 1 + 0) else none) = yF 379 x by decide +kernel) x hx
      · simp only [show ¬ x = 0 by omega, show ¬ x = 1 by omega, show ¬ x = 2 by omega, show ¬ x = 3 by omega, show ¬ x = 4 by omega, if_false]
        have : yF 379 x = yFk 1 379 x := by unfold yF; rw [show yK 379 = 1 by decide +kernel]
        rw [this]
        unfold yFk
        simp only [show ¬ x = 0 by omega, show ¬ x = 1 by omega, show ¬ x = 2 by omega, show ¬ x = 3 by omega, show ¬ x = 4 by omega, show ¬ x < 5 by omega, if_false]
    · simp only [hik, false_and, if_false]
      rw [r0 i x (by omega)]
      have : yK i = 12 ∨ yK i = 13 := (show ∀ i, i < 384 → 379 < i → (yK i = 12 ∨ yK i = 13) by decide +kernel) i (by omega) (by omega)
      unfold yF
      rcases this with q | q <;> rw [q] <;> rfl
  · have hik : ¬ i = 379 := by omega
    rw [if_neg hi]
    simp only [hik, false_and, if_false]
set_option maxRecDepth 100000 in
set_option maxHeartbeats 40000000 in
theorem k_Book (l : Launch) {E0 : sy_ET} {S : sy_St}  (h0 : sy_A0 E0 S 384) : sy_MC l yX0_init cX0_init 1 1 12 3 60 [.ref (sy_ad E0 384)] E0 S 3 (yR E0 384 388) (fun S2 => S2 = S) := by
  refine sy_MC_of RX0 pn_0 rfl rfl (Nat.le_of_ble_eq_true rfl) (fun p e s m args below meth c A ls fx hr hlk hin hao hA X hl => ?_)
  have hx := fx.1
  have hb := fx.2.1
  have hl : lv_has ls 1 [(0, .ref (sy_ad E0 384))] := hl
  obtain ⟨n0, K0, L0, cl0, r0, z0⟩ := h0
  have KN : ∀ {E : sy_ET} {m : Nat} {rr : Nat → Nat → Option Nat}, sy_Q E0 E m rr → sy_n E = 384 + 1 + m ∧ sy_k E (sy_n E) = yK (384 + 1 + m) ∧ sy_l E (sy_n E) = yL (384 + 1 + m) ∧ sy_clo E ∧ ∀ i, i ≤ 384 → sy_ad E i = sy_ad E0 i := fun h => by
    have hn := h.1
    rw [n0] at hn
    exact ⟨hn, by rw [h.2.1, K0, hn], by rw [h.2.2.1, L0, hn], h.2.2.2.2.2.2.2.2.2, fun i hi => h.2.2.2.2.2.2.2.1 i (by omega)⟩
  have IO : ∀ {E : sy_ET} {m : Nat} {rr : Nat → Nat → Option Nat}, sy_Q E0 E m rr → sy_isO E 0 384 := fun h => ⟨by rw [(KN h).1]; omega, by rw [h.2.1, K0]; decide +kernel⟩
  have hQ := sy_Q_0 cl0
  refine lv_aload_n hx hb dX0_init_0 rfl (lv_at hl 0 rfl) ?_
  refine sy_obj0 (rest := []) fx hl.1 wm_148 dX0_init_1 (Nat.le_of_ble_eq_true rfl) (Nat.le_of_ble_eq_true rfl) ?_
  refine lv_aload_n hx hb dX0_init_4 rfl (lv_at hl 0 rfl) ?_
  refine lv_bipush (v := 20) hx hb dX0_init_5 (by decide) ?_
  obtain ⟨n1, k1, l1, c1, a1⟩ := KN hQ
  refine sy_newI fx hA X c1 (N := 20) (by rw [k1]; decide +kernel) (by rw [l1]; decide +kernel) (z0 _ (by omega)) (by decide) rfl (Nat.le_of_ble_eq_true rfl) (Nat.le_of_ble_eq_true rfl) (Nat.le_of_ble_eq_true rfl) dX0_init_7 (fun q H X => ?_)
  have hq2 := sy_ne_q (E := E0) (q := q)
  rw [n1] at hq2
  have hQ := sy_Q_n (q := q) hQ
  refine sy_h0 fx hin X (IO hQ) 0 (by decide) wm_149 (fun _ h9 => h9) rfl rfl (ty := .array .int) (by decide +kernel) rfl rfl ((KN hQ).2.2.2.2 384 (Nat.le_refl _)) (a := 384 + 1 + 0) hq2 (by simp [sy_f0, sy_rv_rs]) dX0_init_9 (fun H locs X => ?_)
  have hQ := sy_Q_r (k := 384) (j := 0) (a := 384 + 1 + 0) hQ (by rw [(KN hQ).1]; omega)
  generalize sy_rs (sy_ne E0 q) 384 0 (384 + 1 + 0) = E at X hQ
  refine lv_aload_n hx hb dX0_init_12 rfl (lv_at hl 0 rfl) ?_
  refine lv_bipush (v := 20) hx hb dX0_init_13 (by decide) ?_
  obtain ⟨n1, k1, l1, c1, a1⟩ := KN hQ
  refine sy_newI fx hA X c1 (N := 20) (by rw [k1]; decide +kernel) (by rw [l1]; decide +kernel) (z0 _ (by omega)) (by decide) rfl (Nat.le_of_ble_eq_true rfl) (Nat.le_of_ble_eq_true rfl) (Nat.le_of_ble_eq_true rfl) dX0_init_15 (fun q H X => ?_)
  have hq2 := sy_ne_q (E := E) (q := q)
  rw [n1] at hq2
  have hQ := sy_Q_n (q := q) hQ
  refine sy_h0 fx hin X (IO hQ) 1 (by decide) wm_150 (fun _ h9 => h9) rfl rfl (ty := .array .int) (by decide +kernel) rfl rfl ((KN hQ).2.2.2.2 384 (Nat.le_refl _)) (a := 384 + 1 + 1) hq2 (by simp [sy_f0, sy_rv_rs]) dX0_init_17 (fun H locs X => ?_)
  have hQ := sy_Q_r (k := 384) (j := 1) (a := 384 + 1 + 1) hQ (by rw [(KN hQ).1]; omega)
  generalize sy_rs (sy_ne E q) 384 1 (384 + 1 + 1) = E at X hQ
  refine lv_aload_n hx hb dX0_init_20 rfl (lv_at hl 0 rfl) ?_
  refine lv_bipush (v := 20) hx hb dX0_init_21 (by decide) ?_
  obtain ⟨n1, k1, l1, c1, a1⟩ := KN hQ
  refine sy_newZ fx hA X c1 (N := 20) (by rw [k1]; decide +kernel) (by rw [l1]; decide +kernel) (z0 _ (by omega)) (by decide) rfl (Nat.le_of_ble_eq_true rfl) (Nat.le_of_ble_eq_true rfl) (Nat.le_of_ble_eq_true rfl) dX0_init_23 (fun q H X => ?_)
  have hq2 := sy_ne_q (E := E) (q := q)
  rw [n1] at hq2
  have hQ := sy_Q_n (q := q) hQ
  refine sy_h0 fx hin X (IO hQ) 2 (by decide) wm_151 (fun _ h9 => h9) rfl rfl (ty := .array .boolean) (by decide +kernel) rfl rfl ((KN hQ).2.2.2.2 384 (Nat.le_refl _)) (a := 384 + 1 + 2) hq2 (by simp [sy_f0, sy_rv_rs]) dX0_init_25 (fun H locs X => ?_)
  have hQ := sy_Q_r (k := 384) (j := 2) (a := 384 + 1 + 2) hQ (by rw [(KN hQ).1]; omega)
  generalize sy_rs (sy_ne E q) 384 2 (384 + 1 + 2) = E at X hQ
  refine sy_cret fx X hr hlk (sy_Q_c hQ rfl ?_) rfl (Nat.le_of_ble_eq_true rfl) (Nat.le_of_ble_eq_true rfl) dX0_init_28
  funext i x
  unfold yR
  by_cases hi : 384 ≤ i ∧ i < 388
  · rw [if_pos hi]
    by_cases hik : i = 384
    · subst hik
      simp only [true_and, r0 384 _ (Nat.le_refl _)]
      by_cases hx : x < 3
      · exact (show ∀ x, x < 3 → (if x = 2 then some (384 + 1 + 2) else if x = 1 then some (384 + 1 + 1) else if x = 0 then some (384 + 1 + 0) else none) = yF 384 x by decide +kernel) x hx
      · simp only [show ¬ x = 0 by omega, show ¬ x = 1 by omega, show ¬ x = 2 by omega, if_false]
        have : yF 384 x = yFk 0 384 x := by unfold yF; rw [show yK 384 = 0 by decide +kernel]
        rw [this]
        unfold yFk
        simp only [show ¬ x = 0 by omega, show ¬ x = 1 by omega, show ¬ x = 2 by omega, show ¬ x < 3 by omega, if_false]
    · simp only [hik, false_and, if_false]
      rw [r0 i x (by omega)]
      have : yK i = 12 ∨ yK i = 13 := (show ∀ i, i < 388 → 384 < i → (yK i = 12 ∨ yK i = 13) by decide +kernel) i (by omega) (by omega)
      unfold yF
      rcases this with q | q <;> rw [q] <;> rfl
  · have hik : ¬ i = 384 := by omega
    rw [if_neg hi]
    simp only [hik, false_and, if_false]
set_option maxRecDepth 100000 in
set_option maxHeartbeats 40000000 in
theorem k_Debts (l : Launch) {E0 : sy_ET} {S : sy_St}  (h0 : sy_A0 E0 S 388) : sy_MC l yX2_init cX2_init 2 1 12 2 128 [.ref (sy_ad E0 388), .ref (sy_ad E0 1)] E0 S 2 (yR E0 388 391) (fun S2 => S2 = S) := by
  refine sy_MC_of RX2 pn_2 rfl rfl (Nat.le_of_ble_eq_true rfl) (fun p e s m args below meth c A ls fx hr hlk hin hao hA X hl => ?_)
  have hx := fx.1
  have hb := fx.2.1
  have hl : lv_has ls 2 [(0, .ref (sy_ad E0 388)), (1, .ref (sy_ad E0 1))] := hl
  obtain ⟨n0, K0, L0, cl0, r0, z0⟩ := h0
  have KN : ∀ {E : sy_ET} {m : Nat} {rr : Nat → Nat → Option Nat}, sy_Q E0 E m rr → sy_n E = 388 + 1 + m ∧ sy_k E (sy_n E) = yK (388 + 1 + m) ∧ sy_l E (sy_n E) = yL (388 + 1 + m) ∧ sy_clo E ∧ ∀ i, i ≤ 388 → sy_ad E i = sy_ad E0 i := fun h => by
    have hn := h.1
    rw [n0] at hn
    exact ⟨hn, by rw [h.2.1, K0, hn], by rw [h.2.2.1, L0, hn], h.2.2.2.2.2.2.2.2.2, fun i hi => h.2.2.2.2.2.2.2.1 i (by omega)⟩
  have IO : ∀ {E : sy_ET} {m : Nat} {rr : Nat → Nat → Option Nat}, sy_Q E0 E m rr → sy_isO E 2 388 := fun h => ⟨by rw [(KN h).1]; omega, by rw [h.2.1, K0]; decide +kernel⟩
  have hQ := sy_Q_0 cl0
  refine lv_aload_n hx hb dX2_init_0 rfl (lv_at hl 0 rfl) ?_
  refine sy_obj0 (rest := []) fx hl.1 wm_155 dX2_init_1 (Nat.le_of_ble_eq_true rfl) (Nat.le_of_ble_eq_true rfl) ?_
  refine lv_aload_n hx hb dX2_init_4 rfl (lv_at hl 0 rfl) ?_
  refine lv_bipush (v := 64) hx hb dX2_init_5 (by decide) ?_
  obtain ⟨n1, k1, l1, c1, a1⟩ := KN hQ
  refine sy_newI fx hA X c1 (N := 64) (by rw [k1]; decide +kernel) (by rw [l1]; decide +kernel) (z0 _ (by omega)) (by decide) rfl (Nat.le_of_ble_eq_true rfl) (Nat.le_of_ble_eq_true rfl) (Nat.le_of_ble_eq_true rfl) dX2_init_7 (fun q H X => ?_)
  have hq2 := sy_ne_q (E := E0) (q := q)
  rw [n1] at hq2
  have hQ := sy_Q_n (q := q) hQ
  refine sy_h2 fx hin X (IO hQ) 1 (by decide) wm_156 (fun _ h9 => h9) rfl rfl (ty := .array .int) (by decide +kernel) rfl rfl ((KN hQ).2.2.2.2 388 (Nat.le_refl _)) (a := 388 + 1 + 0) hq2 (by simp [sy_f2, sy_rv_rs]) dX2_init_9 (fun H locs X => ?_)
  have hQ := sy_Q_r (k := 388) (j := 1) (a := 388 + 1 + 0) hQ (by rw [(KN hQ).1]; omega)
  generalize sy_rs (sy_ne E0 q) 388 1 (388 + 1 + 0) = E at X hQ
  refine lv_aload_n hx hb dX2_init_12 rfl (lv_at hl 0 rfl) ?_
  refine lv_bipush (v := 64) hx hb dX2_init_13 (by decide) ?_
  obtain ⟨n1, k1, l1, c1, a1⟩ := KN hQ
  refine sy_newI fx hA X c1 (N := 64) (by rw [k1]; decide +kernel) (by rw [l1]; decide +kernel) (z0 _ (by omega)) (by decide) rfl (Nat.le_of_ble_eq_true rfl) (Nat.le_of_ble_eq_true rfl) (Nat.le_of_ble_eq_true rfl) dX2_init_15 (fun q H X => ?_)
  have hq2 := sy_ne_q (E := E) (q := q)
  rw [n1] at hq2
  have hQ := sy_Q_n (q := q) hQ
  refine sy_h2 fx hin X (IO hQ) 2 (by decide) wm_157 (fun _ h9 => h9) rfl rfl (ty := .array .int) (by decide +kernel) rfl rfl ((KN hQ).2.2.2.2 388 (Nat.le_refl _)) (a := 388 + 1 + 1) hq2 (by simp [sy_f2, sy_rv_rs]) dX2_init_17 (fun H locs X => ?_)
  have hQ := sy_Q_r (k := 388) (j := 2) (a := 388 + 1 + 1) hQ (by rw [(KN hQ).1]; omega)
  generalize sy_rs (sy_ne E q) 388 2 (388 + 1 + 1) = E at X hQ
  refine lv_aload_n hx hb dX2_init_20 rfl (lv_at hl 0 rfl) ?_
  refine lv_aload_n hx hb dX2_init_21 rfl (lv_at hl 1 rfl) ?_
  refine sy_h2 fx hin X (IO hQ) 0 (by decide) wm_158 (fun _ h9 => h9) rfl rfl (ty := .object "SkyTurns$Edge") (by decide +kernel) rfl rfl ((KN hQ).2.2.2.2 388 (Nat.le_refl _)) (a := 1) ((KN hQ).2.2.2.2 1 (by omega)) (by simp [sy_f2, sy_rv_rs]) dX2_init_22 (fun H locs X => ?_)
  have hQ := sy_Q_r (k := 388) (j := 0) (a := 1) hQ (by rw [(KN hQ).1]; omega)
  generalize sy_rs E 388 0 1 = E at X hQ
  refine sy_cret fx X hr hlk (sy_Q_c hQ rfl ?_) rfl (Nat.le_of_ble_eq_true rfl) (Nat.le_of_ble_eq_true rfl) dX2_init_25
  funext i x
  unfold yR
  by_cases hi : 388 ≤ i ∧ i < 391
  · rw [if_pos hi]
    by_cases hik : i = 388
    · subst hik
      simp only [true_and, r0 388 _ (Nat.le_refl _)]
      by_cases hx : x < 3
      · exact (show ∀ x, x < 3 → (if x = 0 then some (1) else if x = 2 then some (388 + 1 + 1) else if x = 1 then some (388 + 1 + 0) else none) = yF 388 x by decide +kernel) x hx
      · simp only [show ¬ x = 0 by omega, show ¬ x = 1 by omega, show ¬ x = 2 by omega, if_false]
        have : yF 388 x = yFk 2 388 x := by unfold yF; rw [show yK 388 = 2 by decide +kernel]
        rw [this]
        unfold yFk
        simp only [show ¬ x = 0 by omega, show ¬ x = 1 by omega, show ¬ x = 2 by omega, show ¬ x < 3 by omega, if_false]
    · simp only [hik, false_and, if_false]
      rw [r0 i x (by omega)]
      have : yK i = 12 ∨ yK i = 13 := (show ∀ i, i < 391 → 388 < i → (yK i = 12 ∨ yK i = 13) by decide +kernel) i (by omega) (by omega)
      unfold yF
      rcases this with q | q <;> rw [q] <;> rfl
  · have hik : ¬ i = 388 := by omega
    rw [if_neg hi]
    simp only [hik, false_and, if_false]
set_option maxRecDepth 100000 in
set_option maxHeartbeats 40000000 in
theorem k_Game (l : Launch) {E0 : sy_ET} {S : sy_St}  (h0 : sy_A0 E0 S 391) : sy_MC l yX4_init cX4_init 1 1 12 0 0 [.ref (sy_ad E0 391)] E0 S 0 (yR E0 391 392) (fun S2 => S2 = S) := by
  refine sy_MC_of RX4 pn_4 rfl rfl (Nat.le_of_ble_eq_true rfl) (fun p e s m args below meth c A ls fx hr hlk hin hao hA X hl => ?_)
  have hx := fx.1
  have hb := fx.2.1
  have hl : lv_has ls 1 [(0, .ref (sy_ad E0 391))] := hl
  obtain ⟨n0, K0, L0, cl0, r0, z0⟩ := h0
  have KN : ∀ {E : sy_ET} {m : Nat} {rr : Nat → Nat → Option Nat}, sy_Q E0 E m rr → sy_n E = 391 + 1 + m ∧ sy_k E (sy_n E) = yK (391 + 1 + m) ∧ sy_l E (sy_n E) = yL (391 + 1 + m) ∧ sy_clo E ∧ ∀ i, i ≤ 391 → sy_ad E i = sy_ad E0 i := fun h => by
    have hn := h.1
    rw [n0] at hn
    exact ⟨hn, by rw [h.2.1, K0, hn], by rw [h.2.2.1, L0, hn], h.2.2.2.2.2.2.2.2.2, fun i hi => h.2.2.2.2.2.2.2.1 i (by omega)⟩
  have IO : ∀ {E : sy_ET} {m : Nat} {rr : Nat → Nat → Option Nat}, sy_Q E0 E m rr → sy_isO E 4 391 := fun h => ⟨by rw [(KN h).1]; omega, by rw [h.2.1, K0]; decide +kernel⟩
  have hQ := sy_Q_0 cl0
  refine lv_aload_n hx hb dX4_init_0 rfl (lv_at hl 0 rfl) ?_
  refine sy_obj0 (rest := []) fx hl.1 wm_161 dX4_init_1 (Nat.le_of_ble_eq_true rfl) (Nat.le_of_ble_eq_true rfl) ?_
  refine sy_cret fx X hr hlk (sy_Q_c hQ rfl ?_) rfl (Nat.le_of_ble_eq_true rfl) (Nat.le_of_ble_eq_true rfl) dX4_init_4
  funext i x
  unfold yR
  by_cases hi : 391 ≤ i ∧ i < 392
  · rw [if_pos hi, show i = 391 by omega, r0 _ _ (Nat.le_refl _)]
    unfold yF
    rw [show yK 391 = 4 by decide +kernel]
    rfl
  · rw [if_neg hi]
set_option maxRecDepth 100000 in
set_option maxHeartbeats 40000000 in
theorem k_Rows_s (l : Launch) {E0 : sy_ET} {S : sy_St}  (h0 : sy_A0 E0 S 374) : sy_MC l yX7_init cX7_init 3 1 12 2 11 [.ref (sy_ad E0 374), .ref (sy_ad E0 1), .ref (sy_ad E0 9)] E0 S 2 (fun i x => if i = 374 ∧ x = 1 then some (9) else if i = 374 ∧ x = 0 then some (1) else if i = 374 ∧ x = 3 then some (374 + 1 + 1) else if i = 374 ∧ x = 2 then some (374 + 1 + 0) else sy_r E0 i x) (fun S2 => S2 = S) := by
  refine sy_MC_of RX7 pn_7 rfl rfl (Nat.le_of_ble_eq_true rfl) (fun p e s m args below meth c A ls fx hr hlk hin hao hA X hl => ?_)
  have hx := fx.1
  have hb := fx.2.1
  have hl : lv_has ls 3 [(0, .ref (sy_ad E0 374)), (1, .ref (sy_ad E0 1)), (2, .ref (sy_ad E0 9))] := hl
  obtain ⟨n0, K0, L0, cl0, r0, z0⟩ := h0
  have KN : ∀ {E : sy_ET} {m : Nat} {rr : Nat → Nat → Option Nat}, sy_Q E0 E m rr → sy_n E = 374 + 1 + m ∧ sy_k E (sy_n E) = yK (374 + 1 + m) ∧ sy_l E (sy_n E) = yL (374 + 1 + m) ∧ sy_clo E ∧ ∀ i, i ≤ 374 → sy_ad E i = sy_ad E0 i := fun h => by
    have hn := h.1
    rw [n0] at hn
    exact ⟨hn, by rw [h.2.1, K0, hn], by rw [h.2.2.1, L0, hn], h.2.2.2.2.2.2.2.2.2, fun i hi => h.2.2.2.2.2.2.2.1 i (by omega)⟩
  have IO : ∀ {E : sy_ET} {m : Nat} {rr : Nat → Nat → Option Nat}, sy_Q E0 E m rr → sy_isO E 7 374 := fun h => ⟨by rw [(KN h).1]; omega, by rw [h.2.1, K0]; decide +kernel⟩
  have hQ := sy_Q_0 cl0
  refine lv_aload_n hx hb dX7_init_0 rfl (lv_at hl 0 rfl) ?_
  refine sy_obj0 (rest := []) fx hl.1 wm_126 dX7_init_1 (Nat.le_of_ble_eq_true rfl) (Nat.le_of_ble_eq_true rfl) ?_
  refine lv_aload_n hx hb dX7_init_4 rfl (lv_at hl 0 rfl) ?_
  refine lv_iconst (v := 5) hx hb dX7_init_5 (by decide) ?_
  obtain ⟨n1, k1, l1, c1, a1⟩ := KN hQ
  refine sy_newI fx hA X c1 (N := 5) (by rw [k1]; decide +kernel) (by rw [l1]; decide +kernel) (z0 _ (by omega)) (by decide) rfl (Nat.le_of_ble_eq_true rfl) (Nat.le_of_ble_eq_true rfl) (Nat.le_of_ble_eq_true rfl) dX7_init_6 (fun q H X => ?_)
  have hq2 := sy_ne_q (E := E0) (q := q)
  rw [n1] at hq2
  have hQ := sy_Q_n (q := q) hQ
  refine sy_h7 fx hin X (IO hQ) 2 (by decide) wm_127 (fun _ h9 => h9) rfl rfl (ty := .array .int) (by decide +kernel) rfl rfl ((KN hQ).2.2.2.2 374 (Nat.le_refl _)) (a := 374 + 1 + 0) hq2 (by simp [sy_f7, sy_rv_rs]) dX7_init_8 (fun H locs X => ?_)
  have hQ := sy_Q_r (k := 374) (j := 2) (a := 374 + 1 + 0) hQ (by rw [(KN hQ).1]; omega)
  generalize sy_rs (sy_ne E0 q) 374 2 (374 + 1 + 0) = E at X hQ
  refine lv_aload_n hx hb dX7_init_11 rfl (lv_at hl 0 rfl) ?_
  refine lv_bipush (v := 6) hx hb dX7_init_12 (by decide) ?_
  obtain ⟨n1, k1, l1, c1, a1⟩ := KN hQ
  refine sy_newI fx hA X c1 (N := 6) (by rw [k1]; decide +kernel) (by rw [l1]; decide +kernel) (z0 _ (by omega)) (by decide) rfl (Nat.le_of_ble_eq_true rfl) (Nat.le_of_ble_eq_true rfl) (Nat.le_of_ble_eq_true rfl) dX7_init_14 (fun q H X => ?_)
  have hq2 := sy_ne_q (E := E) (q := q)
  rw [n1] at hq2
  have hQ := sy_Q_n (q := q) hQ
  refine sy_h7 fx hin X (IO hQ) 3 (by decide) wm_128 (fun _ h9 => h9) rfl rfl (ty := .array .int) (by decide +kernel) rfl rfl ((KN hQ).2.2.2.2 374 (Nat.le_refl _)) (a := 374 + 1 + 1) hq2 (by simp [sy_f7, sy_rv_rs]) dX7_init_16 (fun H locs X => ?_)
  have hQ := sy_Q_r (k := 374) (j := 3) (a := 374 + 1 + 1) hQ (by rw [(KN hQ).1]; omega)
  generalize sy_rs (sy_ne E q) 374 3 (374 + 1 + 1) = E at X hQ
  refine lv_aload_n hx hb dX7_init_19 rfl (lv_at hl 0 rfl) ?_
  refine lv_aload_n hx hb dX7_init_20 rfl (lv_at hl 1 rfl) ?_
  refine sy_h7 fx hin X (IO hQ) 0 (by decide) wm_129 (fun _ h9 => h9) rfl rfl (ty := .object "SkyTurns$Edge") (by decide +kernel) rfl rfl ((KN hQ).2.2.2.2 374 (Nat.le_refl _)) (a := 1) ((KN hQ).2.2.2.2 1 (by omega)) (by simp [sy_f7, sy_rv_rs]) dX7_init_21 (fun H locs X => ?_)
  have hQ := sy_Q_r (k := 374) (j := 0) (a := 1) hQ (by rw [(KN hQ).1]; omega)
  generalize sy_rs E 374 0 1 = E at X hQ
  refine lv_aload_n hx hb dX7_init_24 rfl (lv_at hl 0 rfl) ?_
  refine lv_aload_n hx hb dX7_init_25 rfl (lv_at hl 2 rfl) ?_
  refine sy_h7 fx hin X (IO hQ) 1 (by decide) wm_130 (fun _ h9 => h9) rfl rfl (ty := .array (.object "SkyTurns$Sky")) (by decide +kernel) rfl rfl ((KN hQ).2.2.2.2 374 (Nat.le_refl _)) (a := 9) ((KN hQ).2.2.2.2 9 (by omega)) (by simp [sy_f7, sy_rv_rs]) dX7_init_26 (fun H locs X => ?_)
  have hQ := sy_Q_r (k := 374) (j := 1) (a := 9) hQ (by rw [(KN hQ).1]; omega)
  generalize sy_rs E 374 1 9 = E at X hQ
  refine sy_cret fx X hr hlk (sy_Q_c hQ rfl ?_) rfl (Nat.le_of_ble_eq_true rfl) (Nat.le_of_ble_eq_true rfl) dX7_init_29
  rfl
set_option maxRecDepth 100000 in
set_option maxHeartbeats 40000000 in
theorem k_Seen (l : Launch) {E0 : sy_ET} {S : sy_St}  (h0 : sy_A0 E0 S 374) : sy_MC l yX8_init cX8_init 3 2 34 4 21 [.ref (sy_ad E0 374), .ref (sy_ad E0 1), .ref (sy_ad E0 9)] E0 S 4 (yR E0 374 379) (fun S2 => S2 = S) := by
  refine sy_MC_of RX8 pn_8 rfl rfl (Nat.le_of_ble_eq_true rfl) (fun p e s m args below meth c A ls fx hr hlk hin hao hA X hl => ?_)
  have hx := fx.1
  have hb := fx.2.1
  have hl : lv_has ls 3 [(0, .ref (sy_ad E0 374)), (1, .ref (sy_ad E0 1)), (2, .ref (sy_ad E0 9))] := hl
  obtain ⟨n0, K0, L0, cl0, r0, z0⟩ := h0
  have KN : ∀ {E : sy_ET} {m : Nat} {rr : Nat → Nat → Option Nat}, sy_Q E0 E m rr → sy_n E = 374 + 1 + m ∧ sy_k E (sy_n E) = yK (374 + 1 + m) ∧ sy_l E (sy_n E) = yL (374 + 1 + m) ∧ sy_clo E ∧ ∀ i, i ≤ 374 → sy_ad E i = sy_ad E0 i := fun h => by
    have hn := h.1
    rw [n0] at hn
    exact ⟨hn, by rw [h.2.1, K0, hn], by rw [h.2.2.1, L0, hn], h.2.2.2.2.2.2.2.2.2, fun i hi => h.2.2.2.2.2.2.2.1 i (by omega)⟩
  have IO : ∀ {E : sy_ET} {m : Nat} {rr : Nat → Nat → Option Nat}, sy_Q E0 E m rr → sy_isO E 7 374 := fun h => ⟨by rw [(KN h).1]; omega, by rw [h.2.1, K0]; decide +kernel⟩
  have hQ := sy_Q_0 cl0
  refine lv_aload_n hx hb dX8_init_0 rfl (lv_at hl 0 rfl) ?_
  refine lv_aload_n hx hb dX8_init_1 rfl (lv_at hl 1 rfl) ?_
  refine lv_aload_n hx hb dX8_init_2 rfl (lv_at hl 2 rfl) ?_
  refine sy_cc (rest := []) fx hA hao X hl.1 (k_Rows_s l ⟨n0, K0, L0, cl0, r0, z0⟩) ci_Rows wm_136 ⟨Nat.le_of_ble_eq_true rfl, Nat.le_of_ble_eq_true rfl, Nat.le_of_ble_eq_true rfl, Nat.le_of_ble_eq_true rfl⟩ rfl rfl (Nat.le_of_ble_eq_true rfl) dX8_init_3 (fun E S1 H locs hQ hp X => ?_)
  have hp : S1 = S := hp
  rw [hp] at X
  refine lv_aload_n hx hb dX8_init_6 rfl (lv_at hl 0 rfl) ?_
  refine lv_iconst (v := 5) hx hb dX8_init_7 (by decide) ?_
  obtain ⟨n1, k1, l1, c1, a1⟩ := KN hQ
  refine sy_newI fx hA X c1 (N := 5) (by rw [k1]; decide +kernel) (by rw [l1]; decide +kernel) (z0 _ (by omega)) (by decide) rfl (Nat.le_of_ble_eq_true rfl) (Nat.le_of_ble_eq_true rfl) (Nat.le_of_ble_eq_true rfl) dX8_init_8 (fun q H X => ?_)
  have hq2 := sy_ne_q (E := E) (q := q)
  rw [n1] at hq2
  have hQ := sy_Q_n (q := q) hQ
  refine sy_h7 fx hin X (IO hQ) 5 (by decide) wm_134 (fun _ h9 => h9) rfl rfl (ty := .array .int) (by decide +kernel) rfl rfl ((KN hQ).2.2.2.2 374 (Nat.le_refl _)) (a := 374 + 1 + 2) hq2 (by simp [sy_f7, sy_rv_rs]) dX8_init_10 (fun H locs X => ?_)
  have hQ := sy_Q_r (k := 374) (j := 5) (a := 374 + 1 + 2) hQ (by rw [(KN hQ).1]; omega)
  generalize sy_rs (sy_ne E q) 374 5 (374 + 1 + 2) = E at X hQ
  refine lv_aload_n hx hb dX8_init_13 rfl (lv_at hl 0 rfl) ?_
  refine lv_iconst (v := 5) hx hb dX8_init_14 (by decide) ?_
  obtain ⟨n1, k1, l1, c1, a1⟩ := KN hQ
  refine sy_newI fx hA X c1 (N := 5) (by rw [k1]; decide +kernel) (by rw [l1]; decide +kernel) (z0 _ (by omega)) (by decide) rfl (Nat.le_of_ble_eq_true rfl) (Nat.le_of_ble_eq_true rfl) (Nat.le_of_ble_eq_true rfl) dX8_init_15 (fun q H X => ?_)
  have hq2 := sy_ne_q (E := E) (q := q)
  rw [n1] at hq2
  have hQ := sy_Q_n (q := q) hQ
  refine sy_h7 fx hin X (IO hQ) 6 (by decide) wm_135 (fun _ h9 => h9) rfl rfl (ty := .array .int) (by decide +kernel) rfl rfl ((KN hQ).2.2.2.2 374 (Nat.le_refl _)) (a := 374 + 1 + 3) hq2 (by simp [sy_f7, sy_rv_rs]) dX8_init_17 (fun H locs X => ?_)
  have hQ := sy_Q_r (k := 374) (j := 6) (a := 374 + 1 + 3) hQ (by rw [(KN hQ).1]; omega)
  generalize sy_rs (sy_ne E q) 374 6 (374 + 1 + 3) = E at X hQ
  refine sy_cret fx X hr hlk (sy_Q_c hQ rfl ?_) rfl (Nat.le_of_ble_eq_true rfl) (Nat.le_of_ble_eq_true rfl) dX8_init_20
  funext i x
  unfold yR
  by_cases hi : 374 ≤ i ∧ i < 379
  · rw [if_pos hi]
    by_cases hik : i = 374
    · subst hik
      simp only [true_and, r0 374 _ (Nat.le_refl _)]
      by_cases hx : x < 7
      · exact (show ∀ x, x < 7 → (if x = 6 then some (374 + 1 + 3) else if x = 5 then some (374 + 1 + 2) else if x = 1 then some (9) else if x = 0 then some (1) else if x = 3 then some (374 + 1 + 1) else if x = 2 then some (374 + 1 + 0) else none) = yF 374 x by decide +kernel) x hx
      · simp only [show ¬ x = 0 by omega, show ¬ x = 1 by omega, show ¬ x = 2 by omega, show ¬ x = 3 by omega, show ¬ x = 5 by omega, show ¬ x = 6 by omega, if_false]
        have : yF 374 x = yFk 7 374 x := by unfold yF; rw [show yK 374 = 7 by decide +kernel]
        rw [this]
        unfold yFk
        simp only [show ¬ x = 0 by omega, show ¬ x = 1 by omega, show ¬ x = 2 by omega, show ¬ x = 3 by omega, show ¬ x = 4 by omega, show ¬ x = 5 by omega, show ¬ x = 6 by omega, show ¬ x < 7 by omega, if_false]
    · simp only [hik, false_and, if_false]
      rw [r0 i x (by omega)]
      have : yK i = 12 ∨ yK i = 13 := (show ∀ i, i < 379 → 374 < i → (yK i = 12 ∨ yK i = 13) by decide +kernel) i (by omega) (by omega)
      unfold yF
      rcases this with q | q <;> rw [q] <;> rfl
  · have hik : ¬ i = 374 := by omega
    rw [if_neg hi]
    simp only [hik, false_and, if_false]
set_option maxRecDepth 100000 in
set_option maxHeartbeats 40000000 in
theorem k_Rows_h (l : Launch) {E0 : sy_ET} {S : sy_St}  (h0 : sy_A0 E0 S 370) : sy_MC l yX7_init cX7_init 3 1 12 2 11 [.ref (sy_ad E0 370), .ref (sy_ad E0 1), .ref (sy_ad E0 9)] E0 S 2 (fun i x => if i = 370 ∧ x = 1 then some (9) else if i = 370 ∧ x = 0 then some (1) else if i = 370 ∧ x = 3 then some (370 + 1 + 1) else if i = 370 ∧ x = 2 then some (370 + 1 + 0) else sy_r E0 i x) (fun S2 => S2 = S) := by
  refine sy_MC_of RX7 pn_7 rfl rfl (Nat.le_of_ble_eq_true rfl) (fun p e s m args below meth c A ls fx hr hlk hin hao hA X hl => ?_)
  have hx := fx.1
  have hb := fx.2.1
  have hl : lv_has ls 3 [(0, .ref (sy_ad E0 370)), (1, .ref (sy_ad E0 1)), (2, .ref (sy_ad E0 9))] := hl
  obtain ⟨n0, K0, L0, cl0, r0, z0⟩ := h0
  have KN : ∀ {E : sy_ET} {m : Nat} {rr : Nat → Nat → Option Nat}, sy_Q E0 E m rr → sy_n E = 370 + 1 + m ∧ sy_k E (sy_n E) = yK (370 + 1 + m) ∧ sy_l E (sy_n E) = yL (370 + 1 + m) ∧ sy_clo E ∧ ∀ i, i ≤ 370 → sy_ad E i = sy_ad E0 i := fun h => by
    have hn := h.1
    rw [n0] at hn
    exact ⟨hn, by rw [h.2.1, K0, hn], by rw [h.2.2.1, L0, hn], h.2.2.2.2.2.2.2.2.2, fun i hi => h.2.2.2.2.2.2.2.1 i (by omega)⟩
  have IO : ∀ {E : sy_ET} {m : Nat} {rr : Nat → Nat → Option Nat}, sy_Q E0 E m rr → sy_isO E 8 370 := fun h => ⟨by rw [(KN h).1]; omega, by rw [h.2.1, K0]; decide +kernel⟩
  have hQ := sy_Q_0 cl0
  refine lv_aload_n hx hb dX7_init_0 rfl (lv_at hl 0 rfl) ?_
  refine sy_obj0 (rest := []) fx hl.1 wm_126 dX7_init_1 (Nat.le_of_ble_eq_true rfl) (Nat.le_of_ble_eq_true rfl) ?_
  refine lv_aload_n hx hb dX7_init_4 rfl (lv_at hl 0 rfl) ?_
  refine lv_iconst (v := 5) hx hb dX7_init_5 (by decide) ?_
  obtain ⟨n1, k1, l1, c1, a1⟩ := KN hQ
  refine sy_newI fx hA X c1 (N := 5) (by rw [k1]; decide +kernel) (by rw [l1]; decide +kernel) (z0 _ (by omega)) (by decide) rfl (Nat.le_of_ble_eq_true rfl) (Nat.le_of_ble_eq_true rfl) (Nat.le_of_ble_eq_true rfl) dX7_init_6 (fun q H X => ?_)
  have hq2 := sy_ne_q (E := E0) (q := q)
  rw [n1] at hq2
  have hQ := sy_Q_n (q := q) hQ
  refine sy_h8 fx hin X (IO hQ) 2 (by decide) wm_127 (fun _ h9 => h9) rfl rfl (ty := .array .int) (by decide +kernel) rfl rfl ((KN hQ).2.2.2.2 370 (Nat.le_refl _)) (a := 370 + 1 + 0) hq2 (by simp [sy_f8, sy_rv_rs]) dX7_init_8 (fun H locs X => ?_)
  have hQ := sy_Q_r (k := 370) (j := 2) (a := 370 + 1 + 0) hQ (by rw [(KN hQ).1]; omega)
  generalize sy_rs (sy_ne E0 q) 370 2 (370 + 1 + 0) = E at X hQ
  refine lv_aload_n hx hb dX7_init_11 rfl (lv_at hl 0 rfl) ?_
  refine lv_bipush (v := 6) hx hb dX7_init_12 (by decide) ?_
  obtain ⟨n1, k1, l1, c1, a1⟩ := KN hQ
  refine sy_newI fx hA X c1 (N := 6) (by rw [k1]; decide +kernel) (by rw [l1]; decide +kernel) (z0 _ (by omega)) (by decide) rfl (Nat.le_of_ble_eq_true rfl) (Nat.le_of_ble_eq_true rfl) (Nat.le_of_ble_eq_true rfl) dX7_init_14 (fun q H X => ?_)
  have hq2 := sy_ne_q (E := E) (q := q)
  rw [n1] at hq2
  have hQ := sy_Q_n (q := q) hQ
  refine sy_h8 fx hin X (IO hQ) 3 (by decide) wm_128 (fun _ h9 => h9) rfl rfl (ty := .array .int) (by decide +kernel) rfl rfl ((KN hQ).2.2.2.2 370 (Nat.le_refl _)) (a := 370 + 1 + 1) hq2 (by simp [sy_f8, sy_rv_rs]) dX7_init_16 (fun H locs X => ?_)
  have hQ := sy_Q_r (k := 370) (j := 3) (a := 370 + 1 + 1) hQ (by rw [(KN hQ).1]; omega)
  generalize sy_rs (sy_ne E q) 370 3 (370 + 1 + 1) = E at X hQ
  refine lv_aload_n hx hb dX7_init_19 rfl (lv_at hl 0 rfl) ?_
  refine lv_aload_n hx hb dX7_init_20 rfl (lv_at hl 1 rfl) ?_
  refine sy_h8 fx hin X (IO hQ) 0 (by decide) wm_129 (fun _ h9 => h9) rfl rfl (ty := .object "SkyTurns$Edge") (by decide +kernel) rfl rfl ((KN hQ).2.2.2.2 370 (Nat.le_refl _)) (a := 1) ((KN hQ).2.2.2.2 1 (by omega)) (by simp [sy_f8, sy_rv_rs]) dX7_init_21 (fun H locs X => ?_)
  have hQ := sy_Q_r (k := 370) (j := 0) (a := 1) hQ (by rw [(KN hQ).1]; omega)
  generalize sy_rs E 370 0 1 = E at X hQ
  refine lv_aload_n hx hb dX7_init_24 rfl (lv_at hl 0 rfl) ?_
  refine lv_aload_n hx hb dX7_init_25 rfl (lv_at hl 2 rfl) ?_
  refine sy_h8 fx hin X (IO hQ) 1 (by decide) wm_130 (fun _ h9 => h9) rfl rfl (ty := .array (.object "SkyTurns$Sky")) (by decide +kernel) rfl rfl ((KN hQ).2.2.2.2 370 (Nat.le_refl _)) (a := 9) ((KN hQ).2.2.2.2 9 (by omega)) (by simp [sy_f8, sy_rv_rs]) dX7_init_26 (fun H locs X => ?_)
  have hQ := sy_Q_r (k := 370) (j := 1) (a := 9) hQ (by rw [(KN hQ).1]; omega)
  generalize sy_rs E 370 1 9 = E at X hQ
  refine sy_cret fx X hr hlk (sy_Q_c hQ rfl ?_) rfl (Nat.le_of_ble_eq_true rfl) (Nat.le_of_ble_eq_true rfl) dX7_init_29
  rfl
set_option maxRecDepth 100000 in
set_option maxHeartbeats 40000000 in
theorem k_Shift (l : Launch) {E0 : sy_ET} {S : sy_St}  (h0 : sy_A0 E0 S 370) : sy_MC l yX9_init cX9_init 3 2 34 3 16 [.ref (sy_ad E0 370), .ref (sy_ad E0 1), .ref (sy_ad E0 9)] E0 S 3 (yR E0 370 374) (fun S2 => S2 = S) := by
  refine sy_MC_of RX9 pn_9 rfl rfl (Nat.le_of_ble_eq_true rfl) (fun p e s m args below meth c A ls fx hr hlk hin hao hA X hl => ?_)
  have hx := fx.1
  have hb := fx.2.1
  have hl : lv_has ls 3 [(0, .ref (sy_ad E0 370)), (1, .ref (sy_ad E0 1)), (2, .ref (sy_ad E0 9))] := hl
  obtain ⟨n0, K0, L0, cl0, r0, z0⟩ := h0
  have KN : ∀ {E : sy_ET} {m : Nat} {rr : Nat → Nat → Option Nat}, sy_Q E0 E m rr → sy_n E = 370 + 1 + m ∧ sy_k E (sy_n E) = yK (370 + 1 + m) ∧ sy_l E (sy_n E) = yL (370 + 1 + m) ∧ sy_clo E ∧ ∀ i, i ≤ 370 → sy_ad E i = sy_ad E0 i := fun h => by
    have hn := h.1
    rw [n0] at hn
    exact ⟨hn, by rw [h.2.1, K0, hn], by rw [h.2.2.1, L0, hn], h.2.2.2.2.2.2.2.2.2, fun i hi => h.2.2.2.2.2.2.2.1 i (by omega)⟩
  have IO : ∀ {E : sy_ET} {m : Nat} {rr : Nat → Nat → Option Nat}, sy_Q E0 E m rr → sy_isO E 8 370 := fun h => ⟨by rw [(KN h).1]; omega, by rw [h.2.1, K0]; decide +kernel⟩
  have hQ := sy_Q_0 cl0
  refine lv_aload_n hx hb dX9_init_0 rfl (lv_at hl 0 rfl) ?_
  refine lv_aload_n hx hb dX9_init_1 rfl (lv_at hl 1 rfl) ?_
  refine lv_aload_n hx hb dX9_init_2 rfl (lv_at hl 2 rfl) ?_
  refine sy_cc (rest := []) fx hA hao X hl.1 (k_Rows_h l ⟨n0, K0, L0, cl0, r0, z0⟩) ci_Rows wm_122 ⟨Nat.le_of_ble_eq_true rfl, Nat.le_of_ble_eq_true rfl, Nat.le_of_ble_eq_true rfl, Nat.le_of_ble_eq_true rfl⟩ rfl rfl (Nat.le_of_ble_eq_true rfl) dX9_init_3 (fun E S1 H locs hQ hp X => ?_)
  have hp : S1 = S := hp
  rw [hp] at X
  refine lv_aload_n hx hb dX9_init_6 rfl (lv_at hl 0 rfl) ?_
  refine lv_iconst (v := 5) hx hb dX9_init_7 (by decide) ?_
  obtain ⟨n1, k1, l1, c1, a1⟩ := KN hQ
  refine sy_newI fx hA X c1 (N := 5) (by rw [k1]; decide +kernel) (by rw [l1]; decide +kernel) (z0 _ (by omega)) (by decide) rfl (Nat.le_of_ble_eq_true rfl) (Nat.le_of_ble_eq_true rfl) (Nat.le_of_ble_eq_true rfl) dX9_init_8 (fun q H X => ?_)
  have hq2 := sy_ne_q (E := E) (q := q)
  rw [n1] at hq2
  have hQ := sy_Q_n (q := q) hQ
  refine sy_h8 fx hin X (IO hQ) 5 (by decide) wm_121 (fun _ h9 => h9) rfl rfl (ty := .array .int) (by decide +kernel) rfl rfl ((KN hQ).2.2.2.2 370 (Nat.le_refl _)) (a := 370 + 1 + 2) hq2 (by simp [sy_f8, sy_rv_rs]) dX9_init_10 (fun H locs X => ?_)
  have hQ := sy_Q_r (k := 370) (j := 5) (a := 370 + 1 + 2) hQ (by rw [(KN hQ).1]; omega)
  generalize sy_rs (sy_ne E q) 370 5 (370 + 1 + 2) = E at X hQ
  refine sy_cret fx X hr hlk (sy_Q_c hQ rfl ?_) rfl (Nat.le_of_ble_eq_true rfl) (Nat.le_of_ble_eq_true rfl) dX9_init_13
  funext i x
  unfold yR
  by_cases hi : 370 ≤ i ∧ i < 374
  · rw [if_pos hi]
    by_cases hik : i = 370
    · subst hik
      simp only [true_and, r0 370 _ (Nat.le_refl _)]
      by_cases hx : x < 6
      · exact (show ∀ x, x < 6 → (if x = 5 then some (370 + 1 + 2) else if x = 1 then some (9) else if x = 0 then some (1) else if x = 3 then some (370 + 1 + 1) else if x = 2 then some (370 + 1 + 0) else none) = yF 370 x by decide +kernel) x hx
      · simp only [show ¬ x = 0 by omega, show ¬ x = 1 by omega, show ¬ x = 2 by omega, show ¬ x = 3 by omega, show ¬ x = 5 by omega, if_false]
        have : yF 370 x = yFk 8 370 x := by unfold yF; rw [show yK 370 = 8 by decide +kernel]
        rw [this]
        unfold yFk
        simp only [show ¬ x = 0 by omega, show ¬ x = 1 by omega, show ¬ x = 2 by omega, show ¬ x = 3 by omega, show ¬ x = 4 by omega, show ¬ x = 5 by omega, show ¬ x < 6 by omega, if_false]
    · simp only [hik, false_and, if_false]
      rw [r0 i x (by omega)]
      have : yK i = 12 ∨ yK i = 13 := (show ∀ i, i < 374 → 370 < i → (yK i = 12 ∨ yK i = 13) by decide +kernel) i (by omega) (by omega)
      unfold yF
      rcases this with q | q <;> rw [q] <;> rfl
  · have hik : ¬ i = 370 := by omega
    rw [if_neg hi]
    simp only [hik, false_and, if_false]
