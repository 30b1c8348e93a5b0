/-! ===== Reader's and Past's constructors ===== -/
theorem yT_z {E0 : sy_ET} {k a n i j : Nat} {F G : Nat → Option Nat} (hr : ∀ i j, k ≤ i → sy_r E0 i j = none) (hk : k < n) (ha : a < n) (hi : n ≤ i) : yT E0 k F a G n i j = none := by
  unfold yT
  rw [if_neg (by omega), if_neg (by omega), if_neg (by omega), hr i j (by omega)]
def yCl (k : Nat) (S : sy_St) : sy_St := sy_up (sy_up (sy_up (sy_up (sy_up (sy_up S k 7 0) k 8 0) (k + 7) 0 3) (k + 7) 1 5) (k + 7) 2 7) k 9 9
theorem yCl_e {k : Nat} {S : sy_St} : m_Edge_clear k S = some (0, yCl k S) := rfl
theorem yCl_o {k i : Nat} {S : sy_St} (h1 : i ≠ k) (h2 : i ≠ k + 7) : yCl k S i = S i := by
  unfold yCl
  rw [zz_up1 h1, zz_up1 h2, zz_up1 h2, zz_up1 h2, zz_up1 h1, zz_up1 h1]
theorem ySky_b {S : sy_St} {k : Nat} (hk : 8 < k) (h8 : S 1 8 = 0) (h9 : S 1 9 = 9) : ∃ r S1, m_Sky_begin k S = some (r, S1) ∧ zf_o S S1 k (k + 4) ∧ zv_K S1 k = zx_v0 9 (-1) := by
  obtain ⟨r, S1, h, f, v⟩ := zp_begin (S := S) (k := k) (pn := 0) hk h8 (by omega)
  rw [h9] at v
  exact ⟨r, S1, h, f, v⟩
set_option maxRecDepth 100000 in
set_option maxHeartbeats 40000000 in
theorem k_Reader (l : Launch) {E0 : sy_ET} {S : sy_St}  (h0 : sy_A0 E0 S 35) : sy_MC l yX6_init cX6_init 1 3 63 9 305 [.ref (sy_ad E0 35)] E0 S 9 (yR E0 35 45) (fun T => T = sy_up (yCl 37 S) 35 4 (-1)) := by
  refine sy_MC_of RX6 pn_6 rfl rfl (Nat.le_of_ble_eq_true rfl) (fun p e s m args below meth c A ls fx hr hlk hin hao hA X hl => ?_)
  have hx := fx.1
  have hb := fx.2.1
  have hl : lv_has ls 1 [(0, .ref (sy_ad E0 35))] := hl
  obtain ⟨n0, K0, L0, cl0, r0, z0⟩ := h0
  have KN : ∀ {E : sy_ET} {m : Nat} {rr : Nat → Nat → Option Nat}, sy_Q E0 E m rr → sy_n E = 35 + 1 + m ∧ sy_k E (sy_n E) = yK (35 + 1 + m) ∧ sy_l E (sy_n E) = yL (35 + 1 + m) ∧ sy_clo E ∧ ∀ i, i ≤ 35 → sy_ad E i = sy_ad E0 i := fun h => by
    have hn := h.1
    rw [n0] at hn
    exact ⟨hn, by rw [h.2.1, K0, hn], by rw [h.2.2.1, L0, hn], h.2.2.2.2.2.2.2.2.2, fun i hi => h.2.2.2.2.2.2.2.1 i (by omega)⟩
  have IO : ∀ {E : sy_ET} {m : Nat} {rr : Nat → Nat → Option Nat}, sy_Q E0 E m rr → sy_isO E 6 35 := fun h => ⟨by rw [(KN h).1]; omega, by rw [h.2.1, K0]; decide +kernel⟩
  have hQ := sy_Q_0 cl0
  refine lv_aload_n hx hb dX6_init_0 rfl (lv_at hl 0 rfl) ?_
  refine sy_obj0 (rest := []) fx hl.1 wm_105 dX6_init_1 (Nat.le_of_ble_eq_true rfl) (Nat.le_of_ble_eq_true rfl) ?_
  refine lv_aload_n hx hb dX6_init_4 rfl (lv_at hl 0 rfl) ?_
  refine lv_sipush (v := 250) hx hb dX6_init_5 (by decide) ?_
  obtain ⟨n1, k1, l1, c1, a1⟩ := KN hQ
  refine sy_newI fx hA X c1 (N := 250) (by rw [k1]; decide +kernel) (by rw [l1]; decide +kernel) (z0 _ (by omega)) (by decide) rfl (Nat.le_of_ble_eq_true rfl) (Nat.le_of_ble_eq_true rfl) (Nat.le_of_ble_eq_true rfl) dX6_init_8 (fun q H X => ?_)
  have hq2 := sy_ne_q (E := E0) (q := q)
  rw [n1] at hq2
  have hQ := sy_Q_n (q := q) hQ
  refine sy_h6 fx hin X (IO hQ) 0 (by decide) wm_106 (fun _ h9 => h9) rfl rfl (ty := .array .int) (by decide +kernel) rfl rfl ((KN hQ).2.2.2.2 35 (Nat.le_refl _)) (a := 35 + 1 + 0) hq2 (by simp [sy_f6, sy_rv_rs]) dX6_init_10 (fun H locs X => ?_)
  have hQ := sy_Q_r (k := 35) (j := 0) (a := 35 + 1 + 0) hQ (by rw [(KN hQ).1]; omega)
  generalize sy_rs (sy_ne E0 q) 35 0 (35 + 1 + 0) = E at X hQ
  have hQ : sy_Q E0 E 1 (yT E0 35 (fun x => if x = 0 then some 36 else none) 35 (fun _ => none) 37) := sy_Q_c hQ rfl (by
    rw [yT_0 (E0 := E0) (k := 35) (fun j => r0 35 j (Nat.le_refl _)), yT_n r0 (by omega) (Or.inl (by decide +kernel)), yT_f])
  refine lv_aload_n hx hb dX6_init_13 rfl (lv_at hl 0 rfl) ?_
  refine sy_new3 fx hA X (KN hQ).2.2.2.1 wm_107 (by rw [(KN hQ).2.1]; decide +kernel) (fun j => by rw [hQ.2.2.2.2.2.2.2.2.1, (KN hQ).1]; exact yT_z r0 (by omega) (by omega) (by omega)) (z0 _ (by rw [(KN hQ).1]; omega)) (Nat.le_of_ble_eq_true rfl) (Nat.le_of_ble_eq_true rfl) dX6_init_14 (fun q H X => ?_)
  have hq2 := sy_ne_q (E := E) (q := q)
  rw [(KN hQ).1] at hq2
  have hQ1 := sy_Q_n (q := q) hQ
  generalize sy_ne E q = E1 at X hQ1 hq2
  have hr1 := hQ1.2.2.2.2.2.2.2.2.1
  refine lv_dup hx hb dX6_init_17 rfl ?_
  refine sy_cc (rest := [.ref q, .ref (sy_ad E0 35)]) fx hA hao X hl.1 (k_Edge l (k := 37) yEdge_37 yCl_e ⟨(KN hQ1).1, by rw [hQ1.2.1, K0], by rw [hQ1.2.2.1, L0], (KN hQ1).2.2.2.1, fun i j hi => by rw [hr1]; exact yT_z r0 (by omega) (by omega) (by omega), fun i hi => z0 i (by omega)⟩) ci_Edge wm_110 ⟨Nat.le_of_ble_eq_true rfl, Nat.le_of_ble_eq_true rfl, Nat.le_of_ble_eq_true rfl, Nat.le_of_ble_eq_true rfl⟩ rfl (by rw [hq2]; rfl) (Nat.le_of_ble_eq_true rfl) dX6_init_18 (fun E2 S2 H locs hQ2 hp X => ?_)
  have hp : S2 = yCl 37 S := hp
  have hv2 : sy_ad E2 37 = q := by rw [hQ2.2.2.2.2.2.2.2.1 37 (by rw [(KN hQ1).1]; omega)]; exact hq2
  have hQ : sy_Q E0 E2 9 (yT E0 35 (fun x => if x = 0 then some 36 else none) 35 (fun _ => none) 45) := sy_Q_c (sy_Q_t hQ1 hQ2) rfl (yT_c hr1 (by omega) (by omega) (by omega))
  refine sy_h6 fx hin X (IO hQ) 1 (by decide) wm_108 (fun _ h9 => h9) rfl rfl (ty := .object "SkyTurns$Edge") (by decide +kernel) rfl rfl ((KN hQ).2.2.2.2 35 (Nat.le_refl _)) (a := 37) hv2 (by simp [sy_f6, sy_rv_rs]) dX6_init_21 (fun H locs X => ?_)
  have hQ : sy_Q E0 _ 9 (yT E0 35 (fun x => if x = 1 then some 37 else if x = 0 then some 36 else none) 35 (fun _ => none) 45) := sy_Q_c (sy_Q_r (k := 35) (j := 1) (a := 37) hQ (by rw [(KN hQ).1]; omega)) rfl yT_f
  generalize sy_rs E2 35 1 37 = E at X hQ
  refine lv_aload_n hx hb dX6_init_24 rfl (lv_at hl 0 rfl) ?_
  refine lv_iconst (v := -1) hx hb dX6_init_25 (by decide) ?_
  rw [← (KN hQ).2.2.2.2 35 (Nat.le_refl _)]
  obtain ⟨SA, hSA⟩ : ∃ T, T = sy_up S2 35 4 (-1) := ⟨_, rfl⟩
  refine sy_p6 fx X (IO hQ) 4 (by decide) wm_109 (fun _ h9 => h9) rfl (ty := .int) (by decide +kernel) rfl rfl hSA sy_s6_4 dX6_init_26 (fun H locs X => ?_)
  refine sy_cret fx X hr hlk (sy_Q_c hQ rfl (yT_R (by omega) (fun x => ?_))) (by rw [hSA, hp]) (Nat.le_of_ble_eq_true rfl) (Nat.le_of_ble_eq_true rfl) dX6_init_29
  unfold yF
  rw [show yK 35 = 6 by decide +kernel]
  by_cases q0 : x = 0
  · subst q0; rfl
  · by_cases q1 : x = 1
    · subst q1; rfl
    · rw [if_neg q1, if_neg q0]
      show none = (if x = 0 then _ else if x = 1 then _ else none)
      rw [if_neg q0, if_neg q1]
set_option maxRecDepth 100000 in
set_option maxHeartbeats 40000000 in
theorem k_Past (l : Launch) {E0 : sy_ET} {S : sy_St} (hE : sy_OEdge E0 1) (h8 : S 1 8 = 0) (h9 : S 1 9 = 9) (h0 : sy_A0 E0 S 55) : sy_MC l yX5_init cX5_init 3 2 42 301 2160 [.ref (sy_ad E0 55), .ref (sy_ad E0 1)] E0 S 301 (yR E0 55 357) (fun T => ∀ i, (i < 57 ∨ 356 < i) → T i = S i) := by
  refine sy_MC_of RX5 pn_5 rfl rfl (Nat.le_of_ble_eq_true rfl) (fun p e s m args below meth c A ls fx hr hlk hin hao hA X hl => ?_)
  have hx := fx.1
  have hb := fx.2.1
  have hl : lv_has ls 3 [(0, .ref (sy_ad E0 55)), (1, .ref (sy_ad E0 1))] := hl
  obtain ⟨n0, K0, L0, cl0, r0, z0⟩ := h0
  have KN : ∀ {E : sy_ET} {m : Nat} {rr : Nat → Nat → Option Nat}, sy_Q E0 E m rr → sy_n E = 55 + 1 + m ∧ sy_k E (sy_n E) = yK (55 + 1 + m) ∧ sy_l E (sy_n E) = yL (55 + 1 + m) ∧ sy_clo E ∧ ∀ i, i ≤ 55 → sy_ad E i = sy_ad E0 i := fun h => by
    have hn := h.1
    rw [n0] at hn
    exact ⟨hn, by rw [h.2.1, K0, hn], by rw [h.2.2.1, L0, hn], h.2.2.2.2.2.2.2.2.2, fun i hi => h.2.2.2.2.2.2.2.1 i (by omega)⟩
  have IO : ∀ {E : sy_ET} {m : Nat} {rr : Nat → Nat → Option Nat}, sy_Q E0 E m rr → sy_isO E 5 55 := fun h => ⟨by rw [(KN h).1]; omega, by rw [h.2.1, K0]; decide +kernel⟩
  have hQ := sy_Q_0 cl0
  refine lv_aload_n hx hb dX5_init_0 rfl (lv_at hl 0 rfl) ?_
  refine sy_obj0 (rest := []) fx hl.1 wm_114 dX5_init_1 (Nat.le_of_ble_eq_true rfl) (Nat.le_of_ble_eq_true rfl) ?_
  have hQ := sy_Q_c hQ rfl (yT_0 (E0 := E0) (k := 55) (fun j => r0 55 j (Nat.le_refl _)))
  refine lv_aload_n hx hb dX5_init_4 rfl (lv_at hl 0 rfl) ?_
  refine lv_bipush (v := 60) hx hb dX5_init_5 (by decide) ?_
  refine sy_newY fx hA hao X (KN hQ).2.2.2.1 (N := 60) wm_115 (by rw [(KN hQ).2.1]; decide +kernel) (by rw [(KN hQ).2.2.1]; decide +kernel) (fun j => by rw [hQ.2.2.2.2.2.2.2.2.1, (KN hQ).1]; exact yT_z r0 (by omega) (by omega) (by omega)) (by decide) rfl (Nat.le_of_ble_eq_true rfl) (Nat.le_of_ble_eq_true rfl) (Nat.le_of_ble_eq_true rfl) dX5_init_7 (fun q H X => ?_)
  have hq2 := sy_ne_q (E := E0) (q := q)
  rw [n0] at hq2
  have hQ : sy_Q E0 (sy_ne E0 q) 1 (yT E0 55 (fun _ => none) 56 (fun _ => none) 57) := sy_Q_c (sy_Q_n (q := q) hQ) rfl (yT_a r0 (by omega))
  refine sy_h5 fx hin X (IO hQ) 0 (by decide) wm_116 (fun _ h9 => h9) rfl rfl (ty := .array (.object "SkyTurns$Sky")) (by decide +kernel) rfl rfl ((KN hQ).2.2.2.2 55 (Nat.le_refl _)) (a := 56) hq2 (by simp [sy_f5, sy_rv_rs]) dX5_init_10 (fun H locs X => ?_)
  have hQ : sy_Q E0 _ 1 (yT E0 55 (fun x => if x = 0 then some 56 else none) 56 (fun _ => none) 57) := sy_Q_c (sy_Q_r (k := 55) (j := 0) (a := 56) hQ (by rw [(KN hQ).1]; omega)) rfl yT_f
  generalize sy_rs (sy_ne E0 q) 55 0 56 = E at X hQ
  refine lv_iconst (v := 0) hx hb dX5_init_13 (by decide) ?_
  refine lv_istore_n (lv' := [(2, .int 0), (0, .ref (sy_ad E0 55)), (1, .ref (sy_ad E0 1))]) hx hb dX5_init_14 rfl hl (by decide) rfl (fun ls hl => ?_)
  have G0 : (fun x => if x < 0 then some (57 + 5 * x) else none) = (fun _ => none : Nat → Option Nat) := funext fun x => if_neg (by omega)
  have L : ∀ (d i : Nat), i + d = 60 → ∀ (E : sy_ET) (T : sy_St) (H : Heap) (locs : List Loc) (ls : Array Slot), sy_Wd E A s T H locs → sy_Q E0 E (1 + 5 * i) (yT E0 55 (fun x => if x = 0 then some 56 else none) 56 (fun x => if x < i then some (57 + 5 * x) else none) (57 + 5 * i)) → (∀ c, (c < 57 ∨ 57 + 5 * i ≤ c) → T c = S c) → lv_has ls 3 [(2, .int (nI i)), (0, .ref (sy_ad E0 55)), (1, .ref (sy_ad E0 1))] → W p l e (sy_rmC 2 42 301 2160) s m args below meth c H locs (1 + 5 * i) (60 + 35 * i) (MQ below (sy_QC E0 A 301 (yR E0 55 357) (fun T => ∀ i, (i < 57 ∨ 356 < i) → T i = S i)) args s 301 2160 A) (F0 m 15 ls []) := by
    intro d
    induction d with
    | zero =>
      intro i hi E T H locs ls X hQ hT hl
      have h60 : i = 60 := by omega
      subst h60
      refine lv_iload_n hx hb dX5_init_15 rfl (lv_at hl 0 rfl) ?_
      refine lv_bipush (v := 60) hx hb dX5_init_16 (by decide) ?_
      refine lv_icmp_ge (tgt := 41) hx hb dX5_init_18 (by decide) (fun c1 => ?_) (fun c1 => absurd (by decide) c1)
      refine sy_cret fx X hr hlk (sy_Q_c hQ rfl ?_) (fun c hc => hT c (by omega)) (Nat.le_of_ble_eq_true rfl) (Nat.le_of_ble_eq_true rfl) dX5_init_41
      rw [yT_e (by omega) (fun x => ?_), yT_R (by omega) (fun x => ?_)]
      · unfold yF
        rw [show yK 55 = 5 by decide +kernel]; rfl
      · unfold yF
        rw [show yK 56 = 14 by decide +kernel]; rfl
    | succ d ih =>
      intro i hi E T H locs ls X hQ hT hl
      have hi60 : i < 60 := by omega
      obtain ⟨s1, s2, s3⟩ := ySky_57 i hi60
      have hn := (KN hQ).1
      have hrr := hQ.2.2.2.2.2.2.2.2.1
      refine lv_iload_n hx hb dX5_init_15 rfl (lv_at hl 0 rfl) ?_
      refine lv_bipush (v := 60) hx hb dX5_init_16 (by decide) ?_
      refine lv_icmp_ge (tgt := 41) hx hb dX5_init_18 (by decide) (fun c1 => absurd c1 (nI_ge (b := 60) hi60 (by omega))) (fun c1 => ?_)
      refine lv_aload_n hx hb dX5_init_21 rfl (lv_at hl 1 rfl) ?_
      rw [← (KN hQ).2.2.2.2 55 (Nat.le_refl _)]
      refine sy_q5 fx X (IO hQ) 0 (by decide) wm_116 (fun _ h9 => h9) rfl (a := 56) (by rw [hrr]; rfl) dX5_init_22 ?_
      refine lv_iload_n hx hb dX5_init_25 rfl (lv_at hl 0 rfl) ?_
      refine sy_new9 fx hA X (KN hQ).2.2.2.1 wm_115 (by rw [(KN hQ).2.1, show 55 + 1 + (1 + 5 * i) = 57 + 5 * i by omega]; exact s2) (fun j => by rw [hrr, hn]; exact yT_z r0 (by omega) (by omega) (by omega)) (by rw [hT _ (by omega)]; exact z0 _ (by omega)) (by show 1 + 5 * i + 1 ≤ 301; omega) (by show 60 + 35 * i + 11 ≤ 2160; omega) dX5_init_26 (fun q H X => ?_)
      have hq2 := sy_ne_q (E := E) (q := q)
      rw [hn, show 55 + 1 + (1 + 5 * i) = 57 + 5 * i by omega] at hq2
      have h56 : sy_ad (sy_ne E q) 56 = sy_ad E 56 := sy_ne_ad (by omega)
      have hQ1 := sy_Q_n (q := q) hQ
      generalize sy_ne E q = E1 at X hQ1 hq2 h56
      have hr1 := hQ1.2.2.2.2.2.2.2.2.1
      have hn1 := (KN hQ1).1
      obtain ⟨rb, S1, hc, hf, -⟩ := ySky_b (S := T) (k := 57 + 5 * i) (by omega) (by rw [hT 1 (by omega)]; exact h8) (by rw [hT 1 (by omega)]; exact h9)
      have hE1 : sy_OEdge E1 1 := by
        refine yOEdge yEdge_1 (by omega) (by rw [hQ1.2.1, K0]) (by rw [hQ1.2.2.1, L0]) (fun j hj => ?_)
        rw [hr1]
        show (if (1 : Nat) = 55 then _ else if (1 : Nat) = 56 then _ else if 55 < 1 ∧ 1 < 57 + 5 * i then _ else sy_r E0 1 j) = _
        rw [if_neg (by omega), if_neg (by omega), if_neg (by omega)]
        have : j = 0 ∨ j = 1 ∨ j = 2 ∨ j = 3 ∨ j = 4 ∨ j = 5 ∨ j = 6 := by omega
        rcases this with rfl | rfl | rfl | rfl | rfl | rfl | rfl
        · exact sy_OEdge_r0 hE
        · exact sy_OEdge_r1 hE
        · exact sy_OEdge_r2 hE
        · exact sy_OEdge_r3 hE
        · exact sy_OEdge_r4 hE
        · exact sy_OEdge_r5 hE
        · exact sy_OEdge_r6 hE
      refine lv_dup hx hb dX5_init_29 rfl ?_
      refine lv_aload_n hx hb dX5_init_30 rfl (lv_at hl 2 rfl) ?_
      refine sy_cc (rest := [.ref q, .int (nI i), .ref (sy_ad E 56)]) fx hA hao X hl.1 (k_Sky l (k := 57 + 5 * i) ⟨s1, s2, s3⟩ hE1 hc ⟨by omega, by rw [hQ1.2.1, K0], by rw [hQ1.2.2.1, L0], (KN hQ1).2.2.2.1, fun x j hx => by rw [hr1]; exact yT_z r0 (by omega) (by omega) (by omega), fun x hx => by rw [hT x (by omega)]; exact z0 x (by omega)⟩) ci_Sky wm_117 ⟨Nat.le_of_ble_eq_true rfl, Nat.le_of_ble_eq_true rfl, by show 1 + 5 * i + 1 + 4 ≤ 301; omega, by show 60 + 35 * i + 11 + 24 ≤ 2160; omega⟩ rfl (by rw [hq2, (KN hQ1).2.2.2.2 1 (by omega)]; rfl) (Nat.le_of_ble_eq_true rfl) dX5_init_31 (fun E2 S2 H locs hQ2 hp X => ?_)
      have hp : S2 = S1 := hp
      rw [hp] at X
      have a56 : sy_ad E2 56 = sy_ad E 56 := by rw [hQ2.2.2.2.2.2.2.2.1 56 (by omega)]; exact h56
      have aq : sy_ad E2 (57 + 5 * i) = q := by rw [hQ2.2.2.2.2.2.2.2.1 (57 + 5 * i) (by omega)]; exact hq2
      have hQ3 := sy_Q_c (sy_Q_t hQ1 hQ2) rfl (yT_c (n := 57 + 5 * i) (n2 := 57 + 5 * i + 5) hr1 (by omega) (by omega) (by omega))
      have hn3 := (KN hQ3).1
      refine sy_ast fx X (k := 56) (n := 60) (a := 57 + 5 * i) ⟨by omega, by rw [hQ3.2.1, K0]; decide +kernel, by rw [hQ3.2.2.1, L0]; decide +kernel⟩ ⟨by omega, by rw [hQ3.2.1, K0]; exact s2⟩ (zz_in hi60 (by omega)) a56 aq dX5_init_34 (fun H locs X => ?_)
      rw [zz_cl (show i < 2147483648 by omega)] at X
      have hQ4 := sy_Q_c (sy_Q_r (k := 56) (j := i) (a := 57 + 5 * i) hQ3 (by omega)) rfl (yT_g (by omega))
      generalize sy_rs E2 56 i (57 + 5 * i) = E5 at X hQ4
      refine lv_iinc (v := nI (i + 1)) (lv' := [(2, .int (nI (i + 1))), (0, .ref (sy_ad E0 55)), (1, .ref (sy_ad E0 1))]) hx hb dX5_init_35 hl (k := 0) rfl (by rw [← nI_1]; rfl) (by decide) rfl (fun ls hl => ?_)
      refine lv_goto (tgt := 15) hx hb dX5_init_38 (by decide) ?_
      refine W.widen (k := 1 + 5 * (i + 1)) (n := 60 + 35 * (i + 1)) (by omega) (by omega) ?_
      refine ih (i + 1) (by omega) E5 S1 H locs ls X (sy_Q_c hQ4 (by omega) ?_) (fun x hx => by rw [hf x (by omega), hT x (by omega)]) hl
      rw [show 57 + 5 * i + 5 = 57 + 5 * (i + 1) by omega]
      congr 1
      funext x
      by_cases z : x = i
      · rw [if_pos z, if_pos (by omega), z]
      · rw [if_neg z]
        by_cases z2 : x < i
        · rw [if_pos z2, if_pos (by omega)]
        · rw [if_neg z2, if_neg (by omega)]
  refine W.widen (k := 1 + 5 * 0) (n := 60 + 35 * 0) (by omega) (by omega) ?_
  exact L 60 0 rfl E S H locs ls X (by rw [G0]; exact hQ) (fun _ _ => rfl) hl
