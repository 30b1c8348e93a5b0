/-! ===== SkyTurns' constructor ===== -/
/-- what the ints are while it makes its cells, n of them so far -/
def yI (S : sy_St) (n : Nat) : Prop := (S 1 7 = 0 ∧ S 1 8 = 0 ∧ S 1 9 = 9 ∧ ∀ i, i < 3 → S 8 i = zx_gf 3 5 7 i) ∧ (∀ i, n ≤ i → S i = fun _ => 0) ∧ (∀ i, (i = 0 ∨ i = 55 ∨ i = 368 ∨ i = 374 ∨ i = 384) → S i = fun _ => 0) ∧ S 35 2 = 0 ∧ (50 ≤ n → zv_K S 45 = zx_v0 9 (-1))
theorem yI_f {S S1 : sy_St} {n n2 : Nat} (h : yI S n) (hn : n ≤ n2) (hf : ∀ c, (c = 1 ∨ c = 8 ∨ c = 0 ∨ c = 55 ∨ c = 368 ∨ c = 374 ∨ c = 384 ∨ n2 ≤ c) → S1 c = S c) (h35 : S1 35 2 = S 35 2) (h45 : 50 ≤ n2 → zv_K S1 45 = zx_v0 9 (-1)) : yI S1 n2 := by
  obtain ⟨h1, h2, h3, h4, h5⟩ := h
  refine ⟨by rw [hf 1 (by omega), hf 8 (by omega)]; exact h1, fun i hi => by rw [hf i (by omega)]; exact h2 i (by omega), fun i hi => by rw [hf i (by omega)]; exact h3 i hi, by rw [h35, h4], h45⟩
theorem yI_s {S S1 : sy_St} {k : Nat} (h : yI S k) (hk : 8 < k) (hne : k + 4 < 35 ∨ (44 < k ∧ k + 4 < 55) ∨ (357 < k ∧ k + 4 < 368)) (h45 : k = 45 ∨ k + 4 < 45 ∨ 50 ≤ k) (hf : zf_o S S1 k (k + 4)) (hv : zv_K S1 k = zx_v0 9 (-1)) : yI S1 (k + 5) := by
  refine yI_f h (by omega) (fun c hc => hf c (by omega)) (by rw [hf 35 (by omega)]) (fun h50 => ?_)
  rcases h45 with q | q | q
  · rw [← q]; exact hv
  · omega
  · rw [zf_K hf (by omega)]; exact h.2.2.2.2 q
theorem yI_le {S : sy_St} {n n2 : Nat} (h : yI S n) (hn : n ≤ n2) (h50 : n2 < 50 ∨ 50 ≤ n) : yI S n2 := yI_f h hn (fun _ _ => rfl) rfl (fun q => h.2.2.2.2 (by omega))
theorem yOEdge1 {E0 E : sy_ET} {F G : Nat → Option Nat} {a n : Nat} (hn : 8 < sy_n E) (hK : sy_k E = yK) (hL : sy_l E = yL) (hr : sy_r E = yT E0 0 F a G n) (ha : a ≠ 1) (h9 : 9 ≤ n) : sy_OEdge E 1 := by
  refine yOEdge yEdge_1 (by omega) hK hL (fun j hj => ?_)
  rw [hr]
  show (if (1 : Nat) = 0 then _ else if (1 : Nat) = a then _ else if 0 < 1 ∧ 1 < n then yF 1 j else _) = _
  rw [if_neg (by omega), if_neg (fun q => ha q.symm), if_pos (by omega)]
  have : j = 0 ∨ j = 1 ∨ j = 2 ∨ j = 3 ∨ j = 4 ∨ j = 5 ∨ j = 6 := by omega
  rcases this with rfl | rfl | rfl | rfl | rfl | rfl | rfl <;> decide +kernel
theorem yT_k {E0 : sy_ET} {k n : Nat} {F G G2 : Nat → Option Nat} : yT E0 k F k G n = yT E0 k F k G2 n := by
  funext i x
  unfold yT
  by_cases q : i = k
  · rw [if_pos q, if_pos q]
  · rw [if_neg q, if_neg q, if_neg q, if_neg q]
set_option maxRecDepth 100000 in
set_option maxHeartbeats 40000000 in
theorem k_Top (l : Launch) {E0 : sy_ET} {S : sy_St} (h0 : sy_A0 E0 S 0) : sy_MC l yX11_init cX11_init 4 4 83 391 3147 [.ref (sy_ad E0 0)] E0 S 391 (yR E0 0 392) (fun T => ∃ U, yI U 392 ∧ T = sy_up (sy_up U 0 14 (-1)) 0 15 0) := by
  refine sy_MC_of RX11 pn_11 rfl rfl (Nat.le_of_ble_eq_true rfl) (fun p e s m args below meth c A ls fx hr hlk hin hao hA X hl => ?_)
  have hx := fx.1
  have hb := fx.2.1
  have hl : lv_has ls 4 [(0, .ref (sy_ad E0 0))] := hl
  obtain ⟨n0, K0, L0, cl0, r0, z0⟩ := h0
  have hN := X.1.2
  refine lv_aload_n hx hb dX11_init_0 rfl (lv_at hl 0 rfl) ?_
  refine sy_obj0 (rest := []) fx hl.1 wm_9 dX11_init_1 (Nat.le_of_ble_eq_true rfl) (Nat.le_of_ble_eq_true rfl) ?_
  refine sy_new3 fx hA X cl0 wm_12 (by rw [n0, K0]; decide +kernel) (fun j => r0 _ j (by omega)) (z0 _ (by omega)) (Nat.le_of_ble_eq_true rfl) (Nat.le_of_ble_eq_true rfl) dX11_init_4 (fun q H X => ?_)
  have hq2 := sy_ne_q (E := E0) (q := q)
  rw [n0] at hq2
  have hQ1 := sy_Q_n (q := q) (sy_Q_c (sy_Q_0 cl0) rfl (yT_0 (E0 := E0) (k := 0) (fun j => r0 0 j (Nat.le_refl _))))
  have ha0 : sy_ad (sy_ne E0 q) 0 = sy_ad E0 0 := sy_ne_ad (by omega)
  generalize sy_ne E0 q = E1 at X hQ1 hq2 ha0
  have hr1 := hQ1.2.2.2.2.2.2.2.2.1
  have hn1 : sy_n E1 = 2 := by rw [hQ1.1, n0]
  refine lv_dup hx hb dX11_init_7 rfl ?_
  refine sy_cc (rest := [.ref q]) fx hA hao X hl.1 (k_Edge l (k := 1) yEdge_1 yCl_e ⟨hn1, by rw [hQ1.2.1, K0], by rw [hQ1.2.2.1, L0], hQ1.2.2.2.2.2.2.2.2.2, fun i j hi => by rw [hr1]; exact yT_z r0 (by omega) (by omega) hi, fun i hi => z0 i (by omega)⟩) ci_Edge wm_60 ⟨Nat.le_of_ble_eq_true rfl, Nat.le_of_ble_eq_true rfl, Nat.le_of_ble_eq_true rfl, Nat.le_of_ble_eq_true rfl⟩ rfl (by rw [hq2]; rfl) (Nat.le_of_ble_eq_true rfl) dX11_init_8 (fun E2 S2 H locs hQ2 hp X => ?_)
  have hp : S2 = yCl 1 S := hp
  have hI : yI S2 9 := by
    have z : ∀ i, S i = fun _ => 0 := fun i => z0 i (Nat.zero_le _)
    have o : ∀ i, i ≠ 1 → i ≠ 8 → S2 i = fun _ => 0 := fun i a b => by rw [hp, yCl_o a b, z]
    refine ⟨⟨by rw [hp]; simp [yCl, zz_up], by rw [hp]; simp [yCl, zz_up], by rw [hp]; simp [yCl, zz_up], fun i hi => ?_⟩, fun i hi => o i (by omega) (by omega), fun i hi => o i (by omega) (by omega), by rw [o 35 (by omega) (by omega)], fun h => absurd h (by omega)⟩
    rw [hp]
    have : i = 0 ∨ i = 1 ∨ i = 2 := by omega
    rcases this with rfl | rfl | rfl <;> simp [yCl, zz_up, zx_gf]
  have a1 : sy_ad E2 1 = q := by rw [hQ2.2.2.2.2.2.2.2.1 1 (by omega)]; exact hq2
  have a0 : sy_ad E2 0 = sy_ad E0 0 := by rw [hQ2.2.2.2.2.2.2.2.1 0 (by omega)]; exact ha0
  have hQ3 := sy_Q_c (sy_Q_t hQ1 hQ2) rfl (yT_c (n := 1) (n2 := 9) hr1 (by omega) (by omega) (by omega))
  have hn3 : sy_n E2 = 9 := by rw [hQ3.1, n0]
  refine lv_astore_n (lv' := [(1, .ref q), (0, .ref (sy_ad E0 0))]) hx hb dX11_init_11 rfl hl (by decide) rfl (fun ls hl => ?_)
  refine lv_iconst (v := 5) hx hb dX11_init_12 (by decide) ?_
  refine sy_newY fx hA hao X hQ3.2.2.2.2.2.2.2.2.2 (N := 5) wm_15 (by rw [hn3, hQ3.2.1, K0]; decide +kernel) (by rw [hn3, hQ3.2.2.1, L0]; decide +kernel) (fun j => by rw [hQ3.2.2.2.2.2.2.2.2.1, hn3]; exact yT_z r0 (by omega) (by omega) (by omega)) (by decide) rfl (Nat.le_of_ble_eq_true rfl) (Nat.le_of_ble_eq_true rfl) (Nat.le_of_ble_eq_true rfl) dX11_init_13 (fun q9 H X => ?_)
  have a9 := sy_ne_q (E := E2) (q := q9)
  rw [hn3] at a9
  have a1 : sy_ad (sy_ne E2 q9) 1 = q := by rw [sy_ne_ad (by omega)]; exact a1
  have a0 : sy_ad (sy_ne E2 q9) 0 = sy_ad E0 0 := by rw [sy_ne_ad (by omega)]; exact a0
  have hQB : sy_Q E0 (sy_ne E2 q9) 9 (yT E0 0 (fun _ => none) 9 (fun _ => none) 10) := sy_Q_c (sy_Q_n (q := q9) hQ3) rfl (yT_a r0 (by omega))
  generalize sy_ne E2 q9 = EB at X hQB a9 a1 a0
  refine lv_astore_n (lv' := [(2, .ref q9), (1, .ref q), (0, .ref (sy_ad E0 0))]) hx hb dX11_init_16 rfl hl (by decide) rfl (fun ls hl => ?_)
  rw [← a9, ← a1, ← a0] at hl
  -- from here on over EB
  have nB : sy_n EB = 10 := by rw [hQB.1, n0]
  have KB : sy_k EB = yK := by rw [hQB.2.1, K0]
  have LB : sy_l EB = yL := by rw [hQB.2.2.1, L0]
  have KN : ∀ {E : sy_ET} {m : Nat} {rr : Nat → Nat → Option Nat}, sy_Q EB E m rr → sy_n E = 10 + m ∧ sy_k E (sy_n E) = yK (10 + m) ∧ sy_l E (sy_n E) = yL (10 + m) ∧ sy_clo E ∧ ∀ i, i < 10 → sy_ad E i = sy_ad EB i := fun h => by
    have hn := h.1
    rw [nB] at hn
    exact ⟨hn, by rw [h.2.1, KB, hn], by rw [h.2.2.1, LB, hn], h.2.2.2.2.2.2.2.2.2, fun i hi => h.2.2.2.2.2.2.2.1 i (by omega)⟩
  have IO : ∀ {E : sy_ET} {m : Nat} {rr : Nat → Nat → Option Nat}, sy_Q EB E m rr → sy_isO E 10 0 := fun h => ⟨by rw [(KN h).1]; omega, by rw [h.2.1, KB]; decide +kernel⟩
  have A0 : ∀ {E : sy_ET} {m n a : Nat} {F G : Nat → Option Nat} {T : sy_St}, sy_Q EB E m (yT E0 0 F a G n) → 10 + m = n + 1 → a < n → 0 < n → yI T n → sy_A0 E T n := fun h hm ha hp hI => ⟨by rw [(KN h).1]; omega, by rw [h.2.1, KB], by rw [h.2.2.1, LB], (KN h).2.2.2.1, fun i j hi => by rw [h.2.2.2.2.2.2.2.2.1]; exact yT_z r0 hp ha hi, fun i hi => hI.2.1 i hi⟩
  have hQ : sy_Q EB EB 0 (yT E0 0 (fun _ => none) 9 (fun _ => none) 10) := sy_Q_c (sy_Q_0 hQB.2.2.2.2.2.2.2.2.2) rfl hQB.2.2.2.2.2.2.2.2.1
  have hI : yI S2 10 := yI_le hI (by omega) (by omega)
  have OE : ∀ {E : sy_ET} {m n a : Nat} {F G : Nat → Option Nat}, sy_Q EB E m (yT E0 0 F a G n) → a ≠ 1 → 9 ≤ n → sy_OEdge E 1 := fun h ha h9 => yOEdge1 (by rw [(KN h).1]; omega) (by rw [h.2.1, KB]) (by rw [h.2.2.1, LB]) h.2.2.2.2.2.2.2.2.1 ha h9
  refine lv_iconst (v := 0) hx hb dX11_init_17 (by decide) ?_
  refine lv_istore_n (lv' := [(3, .int 0), (2, .ref (sy_ad EB 9)), (1, .ref (sy_ad EB 1)), (0, .ref (sy_ad EB 0))]) hx hb dX11_init_18 rfl hl (by decide) rfl (fun ls hl => ?_)
  have L19 : (∀ (E : sy_ET) (T : sy_St) (H : Heap) (locs : List Loc) (ls : Array Slot), sy_Wd E A s T H locs → sy_Q EB E (0 + 5 * 5) (yT E0 0 (fun _ => none) 9 (fun x => if x < 5 then some (10 + 5 * x) else none) (10 + 5 * 5)) → yI T (10 + 5 * 5) → lv_has ls 4 [(3, .int (nI 5)), (2, .ref (sy_ad EB 9)), (1, .ref (sy_ad EB 1)), (0, .ref (sy_ad EB 0))] → W p l e (sy_rmC 4 83 391 3147) s m args below meth c H locs (9 + 5 * 5) (60 + 35 * 5) (MQ below (sy_QC E0 A 391 (yR E0 0 392) (fun T => ∃ U, yI U 392 ∧ T = sy_up (sy_up U 0 14 (-1)) 0 15 0)) args s 391 3147 A) (F0 m 41 ls [])) → ∀ (d i : Nat), i + d = 5 → ∀ (E : sy_ET) (T : sy_St) (H : Heap) (locs : List Loc) (ls : Array Slot), sy_Wd E A s T H locs → sy_Q EB E (0 + 5 * i) (yT E0 0 (fun _ => none) 9 (fun x => if x < i then some (10 + 5 * x) else none) (10 + 5 * i)) → yI T (10 + 5 * i) → lv_has ls 4 [(3, .int (nI i)), (2, .ref (sy_ad EB 9)), (1, .ref (sy_ad EB 1)), (0, .ref (sy_ad EB 0))] → W p l e (sy_rmC 4 83 391 3147) s m args below meth c H locs (9 + 5 * i) (60 + 35 * i) (MQ below (sy_QC E0 A 391 (yR E0 0 392) (fun T => ∃ U, yI U 392 ∧ T = sy_up (sy_up U 0 14 (-1)) 0 15 0)) args s 391 3147 A) (F0 m 19 ls []) := by
    intro kend d
    induction d with
    | zero =>
      intro i hi E T H locs ls X hQ hI hl
      have h60 : i = 5 := by omega
      subst h60
      refine lv_iload_n hx hb dX11_init_19 rfl (lv_at hl 0 rfl) ?_
      refine lv_iconst (v := 5) hx hb dX11_init_20 (by decide) ?_
      refine lv_icmp_ge (tgt := 41) hx hb dX11_init_21 (by decide) (fun c1 => ?_) (fun c1 => absurd (by decide) c1)
      exact kend E T H locs ls X hQ hI hl
    | succ d ih =>
      intro i hi E T H locs ls X hQ hI hl
      have hi60 : i < 5 := by omega
      obtain ⟨s1, s2, s3⟩ := ySky_10 i hi60
      have hn := (KN hQ).1
      have hrr := hQ.2.2.2.2.2.2.2.2.1
      refine lv_iload_n hx hb dX11_init_19 rfl (lv_at hl 0 rfl) ?_
      refine lv_iconst (v := 5) hx hb dX11_init_20 (by decide) ?_
      refine lv_icmp_ge (tgt := 41) hx hb dX11_init_21 (by decide) (fun c1 => absurd c1 (nI_ge (b := 5) hi60 (by omega))) (fun c1 => ?_)
      refine lv_aload_n hx hb dX11_init_24 rfl (lv_at hl 1 rfl) ?_
      rw [← (KN hQ).2.2.2.2 9 (by omega)]
      refine lv_iload_n hx hb dX11_init_25 rfl (lv_at hl 0 rfl) ?_
      refine sy_new9 fx hA X (KN hQ).2.2.2.1 wm_15 (by rw [(KN hQ).2.1, show 10 + (0 + 5 * i) = 10 + 5 * i by omega]; exact s2) (fun j => by rw [hrr, hn]; exact yT_z r0 (by omega) (by omega) (by omega)) (hI.2.1 _ (by omega)) (by show 9 + 5 * i + 1 ≤ 391; omega) (by show 60 + 35 * i + 11 ≤ 3147; omega) dX11_init_26 (fun q H X => ?_)
      have hq2 := sy_ne_q (E := E) (q := q)
      rw [hn, show 10 + (0 + 5 * i) = 10 + 5 * i by omega] at hq2
      have h56 : sy_ad (sy_ne E q) 9 = sy_ad E 9 := sy_ne_ad (by omega)
      have hQ1 := sy_Q_n (q := q) hQ
      generalize sy_ne E q = E1 at X hQ1 hq2 h56
      have hr1 := hQ1.2.2.2.2.2.2.2.2.1
      have hn1 := (KN hQ1).1
      obtain ⟨rb, S1, hc, hf, hv⟩ := ySky_b (S := T) (k := 10 + 5 * i) (by omega) hI.1.2.1 hI.1.2.2.1
      refine lv_dup hx hb dX11_init_29 rfl ?_
      refine lv_aload_n hx hb dX11_init_30 rfl (lv_at hl 2 rfl) ?_
      refine sy_cc (rest := [.ref q, .int (nI i), .ref (sy_ad E 9)]) fx hA hao X hl.1 (k_Sky l (k := 10 + 5 * i) ⟨s1, s2, s3⟩ (OE hQ1 (by omega) (by omega)) hc (A0 hQ1 (by omega) (by omega) (by omega) hI)) ci_Sky wm_82 ⟨Nat.le_of_ble_eq_true rfl, Nat.le_of_ble_eq_true rfl, by show 9 + 5 * i + 1 + 4 ≤ 391; omega, by show 60 + 35 * i + 11 + 24 ≤ 3147; omega⟩ rfl (by rw [hq2, (KN hQ1).2.2.2.2 1 (by omega)]; rfl) (Nat.le_of_ble_eq_true rfl) dX11_init_31 (fun E2 S2 H locs hQ2 hp X => ?_)
      have hp : S2 = S1 := hp
      rw [hp] at X
      have a56 : sy_ad E2 9 = sy_ad E 9 := by rw [hQ2.2.2.2.2.2.2.2.1 9 (by omega)]; exact h56
      have aq : sy_ad E2 (10 + 5 * i) = q := by rw [hQ2.2.2.2.2.2.2.2.1 (10 + 5 * i) (by omega)]; exact hq2
      have hQ3 := sy_Q_c (sy_Q_t hQ1 hQ2) rfl (yT_c (n := 10 + 5 * i) (n2 := 10 + 5 * i + 5) hr1 (by omega) (by omega) (by omega))
      have hn3 := (KN hQ3).1
      refine sy_ast fx X (k := 9) (n := 5) (a := 10 + 5 * i) ⟨by omega, by rw [hQ3.2.1, KB]; decide +kernel, by rw [hQ3.2.2.1, LB]; decide +kernel⟩ ⟨by omega, by rw [hQ3.2.1, KB]; exact s2⟩ (zz_in hi60 (by omega)) a56 aq dX11_init_34 (fun H locs X => ?_)
      rw [zz_cl (show i < 2147483648 by omega)] at X
      have hQ4 := sy_Q_c (sy_Q_r (k := 9) (j := i) (a := 10 + 5 * i) hQ3 (by omega)) rfl (yT_g (by omega))
      generalize sy_rs E2 9 i (10 + 5 * i) = E5 at X hQ4
      refine lv_iinc (v := nI (i + 1)) (lv' := [(3, .int (nI (i + 1))), (2, .ref (sy_ad EB 9)), (1, .ref (sy_ad EB 1)), (0, .ref (sy_ad EB 0))]) hx hb dX11_init_35 hl (k := 0) rfl (by rw [← nI_1]; rfl) (by decide) rfl (fun ls hl => ?_)
      refine lv_goto (tgt := 19) hx hb dX11_init_38 (by decide) ?_
      refine W.widen (k := 9 + 5 * (i + 1)) (n := 60 + 35 * (i + 1)) (by omega) (by omega) ?_
      refine ih (i + 1) (by omega) E5 S1 H locs ls X (sy_Q_c hQ4 (by omega) ?_) (by rw [show 10 + 5 * (i + 1) = 10 + 5 * i + 5 by omega]; exact yI_s hI (by omega) (by omega) (by omega) hf hv) hl
      rw [show 10 + 5 * i + 5 = 10 + 5 * (i + 1) by omega]
      congr 1
      funext x
      by_cases z : x = i
      · rw [if_pos z, if_pos (by omega), z]
      · rw [if_neg z]
        by_cases z2 : x < i
        · rw [if_pos z2, if_pos (by omega)]
        · rw [if_neg z2, if_neg (by omega)]
  refine W.widen (k := 9 + 5 * 0) (n := 60 + 35 * 0) (by decide) (by decide) ?_
  refine L19 (fun E T H locs ls X hQ hI hl => ?_) 5 0 rfl _ _ H locs ls X (by rw [show (fun x => if x < 0 then some (10 + 5 * x) else none) = (fun _ => none : Nat → Option Nat) from funext fun x => if_neg (by omega)]; exact hQ) hI hl
  clear L19
  have hQ : sy_Q EB E 25 (yT E0 0 (fun _ => none) 0 (fun _ => none) 35) := sy_Q_c hQ rfl ((yT_e (by omega) (fun x => by unfold yF; rw [show yK 9 = 14 by decide +kernel]; rfl)).trans yT_k)
  refine lv_aload_n hx hb dX11_init_41 rfl (lv_at hl 3 rfl) ?_
  refine lv_aload_n hx hb dX11_init_42 rfl (lv_at hl 2 rfl) ?_
  refine sy_h10 fx hin X (IO hQ) 0 (by decide) wm_18 (fun _ h9 => h9) rfl rfl (ty := .object "SkyTurns$Edge") (by decide +kernel) rfl rfl ((KN hQ).2.2.2.2 0 (by omega)) (a := 1) ((KN hQ).2.2.2.2 1 (by omega)) (by simp [sy_f10, sy_rv_rs]) dX11_init_43 (fun H locs X => ?_)
  have hQ : sy_Q EB _ 25 (yT E0 0 (fun x => if x = 0 then some 1 else none) 0 (fun _ => none) 35) := sy_Q_c (sy_Q_r (k := 0) (j := 0) (a := 1) hQ (by rw [(KN hQ).1]; omega)) rfl yT_f
  generalize sy_rs E 0 0 1 = E at X hQ
  refine lv_aload_n hx hb dX11_init_46 rfl (lv_at hl 3 rfl) ?_
  refine sy_new6 fx hA X (KN hQ).2.2.2.1 wm_19 (by rw [(KN hQ).2.1]; decide +kernel) (fun j => by rw [hQ.2.2.2.2.2.2.2.2.1, (KN hQ).1]; exact yT_z r0 (by omega) (by omega) (by omega)) (hI.2.1 _ (by rw [(KN hQ).1]; omega)) (Nat.le_of_ble_eq_true rfl) (Nat.le_of_ble_eq_true rfl) dX11_init_47 (fun q H X => ?_)
  have hq2 := sy_ne_q (E := E) (q := q)
  rw [(KN hQ).1] at hq2
  have hQ1 := sy_Q_n (q := q) hQ
  generalize sy_ne E q = E1 at X hQ1 hq2
  have hr1 := hQ1.2.2.2.2.2.2.2.2.1
  have hn1 := (KN hQ1).1
  refine lv_dup hx hb dX11_init_50 rfl ?_
  refine sy_ccN (rest := [.ref q, .ref (sy_ad EB 0)]) fx hA hao X hl.1 (k_Reader l (A0 (n := 35) hQ1 rfl (by omega) (by omega) hI)) ci_Reader hN.2.1 ⟨Nat.le_of_ble_eq_true rfl, Nat.le_of_ble_eq_true rfl, Nat.le_of_ble_eq_true rfl, Nat.le_of_ble_eq_true rfl⟩ rfl (by rw [hq2]; rfl) (Nat.le_of_ble_eq_true rfl) dX11_init_51 (fun E2 S2 H locs hQ2 hp X => ?_)
  have hv2 : sy_ad E2 35 = q := by rw [hQ2.2.2.2.2.2.2.2.1 35 (by omega)]; exact hq2
  have hQ : sy_Q EB E2 35 (yT E0 0 (fun x => if x = 0 then some 1 else none) 0 (fun _ => none) 45) := sy_Q_c (sy_Q_t hQ1 hQ2) rfl (yT_c (n := 35) (n2 := 45) hr1 (by omega) (by omega) (by omega))
  have hp : S2 = sy_up (yCl 37 T) 35 4 (-1) := hp
  have hI : yI S2 45 := yI_f hI (by omega) (fun c hc => by rw [hp, zz_up1 (by omega), yCl_o (by omega) (by omega)]) (by rw [hp, zz_upo, if_neg (by omega), yCl_o (by omega) (by omega)]) (fun h => absurd h (by omega))
  refine sy_h10 fx hin X (IO hQ) 1 (by decide) wm_22 (fun _ h9 => h9) rfl rfl (ty := .object "SkyTurns$Reader") (by decide +kernel) rfl rfl ((KN hQ).2.2.2.2 0 (by omega)) (a := 35) hv2 (by simp [sy_f10, sy_rv_rs]) dX11_init_54 (fun H locs X => ?_)
  have hQ : sy_Q EB _ 35 (yT E0 0 (fun x => if x = 1 then some 35 else if x = 0 then some 1 else none) 0 (fun _ => none) 45) := sy_Q_c (sy_Q_r (k := 0) (j := 1) (a := 35) hQ (by rw [(KN hQ).1]; omega)) rfl yT_f
  generalize sy_rs E2 0 1 35 = E at X hQ
  refine lv_aload_n hx hb dX11_init_57 rfl (lv_at hl 3 rfl) ?_
  refine sy_new9 fx hA X (KN hQ).2.2.2.1 wm_15 (by rw [(KN hQ).2.1]; decide +kernel) (fun j => by rw [hQ.2.2.2.2.2.2.2.2.1, (KN hQ).1]; exact yT_z r0 (by omega) (by omega) (by omega)) (hI.2.1 _ (by rw [(KN hQ).1]; omega)) (Nat.le_of_ble_eq_true rfl) (Nat.le_of_ble_eq_true rfl) dX11_init_58 (fun q H X => ?_)
  have hq2 := sy_ne_q (E := E) (q := q)
  rw [(KN hQ).1] at hq2
  have hQ1 := sy_Q_n (q := q) hQ
  generalize sy_ne E q = E1 at X hQ1 hq2
  have hr1 := hQ1.2.2.2.2.2.2.2.2.1
  have hn1 := (KN hQ1).1
  refine lv_dup hx hb dX11_init_61 rfl ?_
  refine lv_aload_n hx hb dX11_init_62 rfl (lv_at hl 2 rfl) ?_
  obtain ⟨rb, SB, hc, hf, hv⟩ := ySky_b (S := S2) (k := 45) (by omega) hI.1.2.1 hI.1.2.2.1
  refine sy_cc (rest := [.ref q, .ref (sy_ad EB 0)]) fx hA hao X hl.1 (k_Sky l ySky_45 (OE hQ1 (by omega) (by omega)) hc (A0 (n := 45) hQ1 rfl (by omega) (by omega) hI)) ci_Sky wm_82 ⟨Nat.le_of_ble_eq_true rfl, Nat.le_of_ble_eq_true rfl, Nat.le_of_ble_eq_true rfl, Nat.le_of_ble_eq_true rfl⟩ rfl (by rw [hq2, (KN hQ1).2.2.2.2 1 (by omega)]; rfl) (Nat.le_of_ble_eq_true rfl) dX11_init_63 (fun E2 S2 H locs hQ2 hp X => ?_)
  have hv2 : sy_ad E2 45 = q := by rw [hQ2.2.2.2.2.2.2.2.1 45 (by omega)]; exact hq2
  have hQ : sy_Q EB E2 40 (yT E0 0 (fun x => if x = 1 then some 35 else if x = 0 then some 1 else none) 0 (fun _ => none) 50) := sy_Q_c (sy_Q_t hQ1 hQ2) rfl (yT_c (n := 45) (n2 := 50) hr1 (by omega) (by omega) (by omega))
  have hp : S2 = SB := hp
  have hI : yI S2 50 := by rw [hp]; exact yI_s hI (by omega) (by omega) (by omega) hf hv
  refine sy_h10 fx hin X (IO hQ) 2 (by decide) wm_23 (fun _ h9 => h9) rfl rfl (ty := .object "SkyTurns$Sky") (by decide +kernel) rfl rfl ((KN hQ).2.2.2.2 0 (by omega)) (a := 45) hv2 (by simp [sy_f10, sy_rv_rs]) dX11_init_66 (fun H locs X => ?_)
  have hQ : sy_Q EB _ 40 (yT E0 0 (fun x => if x = 2 then some 45 else if x = 1 then some 35 else if x = 0 then some 1 else none) 0 (fun _ => none) 50) := sy_Q_c (sy_Q_r (k := 0) (j := 2) (a := 45) hQ (by rw [(KN hQ).1]; omega)) rfl yT_f
  generalize sy_rs E2 0 2 45 = E at X hQ
  refine lv_aload_n hx hb dX11_init_69 rfl (lv_at hl 3 rfl) ?_
  refine sy_new9 fx hA X (KN hQ).2.2.2.1 wm_15 (by rw [(KN hQ).2.1]; decide +kernel) (fun j => by rw [hQ.2.2.2.2.2.2.2.2.1, (KN hQ).1]; exact yT_z r0 (by omega) (by omega) (by omega)) (hI.2.1 _ (by rw [(KN hQ).1]; omega)) (Nat.le_of_ble_eq_true rfl) (Nat.le_of_ble_eq_true rfl) dX11_init_70 (fun q H X => ?_)
  have hq2 := sy_ne_q (E := E) (q := q)
  rw [(KN hQ).1] at hq2
  have hQ1 := sy_Q_n (q := q) hQ
  generalize sy_ne E q = E1 at X hQ1 hq2
  have hr1 := hQ1.2.2.2.2.2.2.2.2.1
  have hn1 := (KN hQ1).1
  refine lv_dup hx hb dX11_init_73 rfl ?_
  refine lv_aload_n hx hb dX11_init_74 rfl (lv_at hl 2 rfl) ?_
  obtain ⟨rb, SB, hc, hf, hv⟩ := ySky_b (S := S2) (k := 50) (by omega) hI.1.2.1 hI.1.2.2.1
  refine sy_cc (rest := [.ref q, .ref (sy_ad EB 0)]) fx hA hao X hl.1 (k_Sky l ySky_50 (OE hQ1 (by omega) (by omega)) hc (A0 (n := 50) hQ1 rfl (by omega) (by omega) hI)) ci_Sky wm_82 ⟨Nat.le_of_ble_eq_true rfl, Nat.le_of_ble_eq_true rfl, Nat.le_of_ble_eq_true rfl, Nat.le_of_ble_eq_true rfl⟩ rfl (by rw [hq2, (KN hQ1).2.2.2.2 1 (by omega)]; rfl) (Nat.le_of_ble_eq_true rfl) dX11_init_75 (fun E2 S2 H locs hQ2 hp X => ?_)
  have hv2 : sy_ad E2 50 = q := by rw [hQ2.2.2.2.2.2.2.2.1 50 (by omega)]; exact hq2
  have hQ : sy_Q EB E2 45 (yT E0 0 (fun x => if x = 2 then some 45 else if x = 1 then some 35 else if x = 0 then some 1 else none) 0 (fun _ => none) 55) := sy_Q_c (sy_Q_t hQ1 hQ2) rfl (yT_c (n := 50) (n2 := 55) hr1 (by omega) (by omega) (by omega))
  have hp : S2 = SB := hp
  have hI : yI S2 55 := by rw [hp]; exact yI_s hI (by omega) (by omega) (by omega) hf hv
  refine sy_h10 fx hin X (IO hQ) 3 (by decide) wm_24 (fun _ h9 => h9) rfl rfl (ty := .object "SkyTurns$Sky") (by decide +kernel) rfl rfl ((KN hQ).2.2.2.2 0 (by omega)) (a := 50) hv2 (by simp [sy_f10, sy_rv_rs]) dX11_init_78 (fun H locs X => ?_)
  have hQ : sy_Q EB _ 45 (yT E0 0 (fun x => if x = 3 then some 50 else if x = 2 then some 45 else if x = 1 then some 35 else if x = 0 then some 1 else none) 0 (fun _ => none) 55) := sy_Q_c (sy_Q_r (k := 0) (j := 3) (a := 50) hQ (by rw [(KN hQ).1]; omega)) rfl yT_f
  generalize sy_rs E2 0 3 50 = E at X hQ
  refine lv_aload_n hx hb dX11_init_81 rfl (lv_at hl 3 rfl) ?_
  refine sy_new5 fx hA X (KN hQ).2.2.2.1 wm_25 (by rw [(KN hQ).2.1]; decide +kernel) (fun j => by rw [hQ.2.2.2.2.2.2.2.2.1, (KN hQ).1]; exact yT_z r0 (by omega) (by omega) (by omega)) (hI.2.1 _ (by rw [(KN hQ).1]; omega)) (Nat.le_of_ble_eq_true rfl) (Nat.le_of_ble_eq_true rfl) dX11_init_82 (fun q H X => ?_)
  have hq2 := sy_ne_q (E := E) (q := q)
  rw [(KN hQ).1] at hq2
  have hQ1 := sy_Q_n (q := q) hQ
  generalize sy_ne E q = E1 at X hQ1 hq2
  have hr1 := hQ1.2.2.2.2.2.2.2.2.1
  have hn1 := (KN hQ1).1
  refine lv_dup hx hb dX11_init_85 rfl ?_
  refine lv_aload_n hx hb dX11_init_86 rfl (lv_at hl 2 rfl) ?_
  refine sy_cc (rest := [.ref q, .ref (sy_ad EB 0)]) fx hA hao X hl.1 (k_Past l (OE hQ1 (by omega) (by omega)) hI.1.2.1 hI.1.2.2.1 (A0 (n := 55) hQ1 rfl (by omega) (by omega) hI)) ci_Past wm_111 ⟨Nat.le_of_ble_eq_true rfl, Nat.le_of_ble_eq_true rfl, Nat.le_of_ble_eq_true rfl, Nat.le_of_ble_eq_true rfl⟩ rfl (by rw [hq2, (KN hQ1).2.2.2.2 1 (by omega)]; rfl) (Nat.le_of_ble_eq_true rfl) dX11_init_87 (fun E2 S2 H locs hQ2 hp X => ?_)
  have hv2 : sy_ad E2 55 = q := by rw [hQ2.2.2.2.2.2.2.2.1 55 (by omega)]; exact hq2
  have hQ : sy_Q EB E2 347 (yT E0 0 (fun x => if x = 3 then some 50 else if x = 2 then some 45 else if x = 1 then some 35 else if x = 0 then some 1 else none) 0 (fun _ => none) 357) := sy_Q_c (sy_Q_t hQ1 hQ2) rfl (yT_c (n := 55) (n2 := 357) hr1 (by omega) (by omega) (by omega))
  have hI : yI S2 357 := yI_f hI (by omega) (fun c hc => hp c (by omega)) (by rw [hp 35 (by omega)]) (fun _ => by rw [← hI.2.2.2.2 (by omega)]; exact zv_Kc (fun i j a b => by rw [hp i (by omega)]))
  refine sy_h10 fx hin X (IO hQ) 4 (by decide) wm_28 (fun _ h9 => h9) rfl rfl (ty := .object "SkyTurns$Past") (by decide +kernel) rfl rfl ((KN hQ).2.2.2.2 0 (by omega)) (a := 55) hv2 (by simp [sy_f10, sy_rv_rs]) dX11_init_90 (fun H locs X => ?_)
  have hQ : sy_Q EB _ 347 (yT E0 0 (fun x => if x = 4 then some 55 else if x = 3 then some 50 else if x = 2 then some 45 else if x = 1 then some 35 else if x = 0 then some 1 else none) 0 (fun _ => none) 357) := sy_Q_c (sy_Q_r (k := 0) (j := 4) (a := 55) hQ (by rw [(KN hQ).1]; omega)) rfl yT_f
  generalize sy_rs E2 0 4 55 = E at X hQ
  refine lv_aload_n hx hb dX11_init_93 rfl (lv_at hl 3 rfl) ?_
  refine lv_iconst (v := 2) hx hb dX11_init_94 (by decide) ?_
  refine sy_newY fx hA hao X (KN hQ).2.2.2.1 (N := 2) wm_15 (by rw [(KN hQ).2.1]; decide +kernel) (by rw [(KN hQ).2.2.1]; decide +kernel) (fun j => by rw [hQ.2.2.2.2.2.2.2.2.1, (KN hQ).1]; exact yT_z r0 (by omega) (by omega) (by omega)) (by decide) rfl (Nat.le_of_ble_eq_true rfl) (Nat.le_of_ble_eq_true rfl) (Nat.le_of_ble_eq_true rfl) dX11_init_95 (fun q H X => ?_)
  have hq2 := sy_ne_q (E := E) (q := q)
  rw [(KN hQ).1] at hq2
  have hQ : sy_Q EB (sy_ne E q) 348 (yT E0 0 (fun x => if x = 4 then some 55 else if x = 3 then some 50 else if x = 2 then some 45 else if x = 1 then some 35 else if x = 0 then some 1 else none) 357 (fun _ => none) 358) := sy_Q_c (sy_Q_n (q := q) hQ) rfl (yT_a r0 (by omega))
  generalize sy_ne E q = E at X hQ hq2
  have hI : yI S2 358 := yI_le hI (by omega) (by omega)
  refine sy_h10 fx hin X (IO hQ) 5 (by decide) wm_29 (fun _ h9 => h9) rfl rfl (ty := .array (.object "SkyTurns$Sky")) (by decide +kernel) rfl rfl ((KN hQ).2.2.2.2 0 (by omega)) (a := 357) hq2 (by simp [sy_f10, sy_rv_rs]) dX11_init_98 (fun H locs X => ?_)
  have hQ : sy_Q EB _ 348 (yT E0 0 (fun x => if x = 5 then some 357 else if x = 4 then some 55 else if x = 3 then some 50 else if x = 2 then some 45 else if x = 1 then some 35 else if x = 0 then some 1 else none) 357 (fun _ => none) 358) := sy_Q_c (sy_Q_r (k := 0) (j := 5) (a := 357) hQ (by rw [(KN hQ).1]; omega)) rfl yT_f
  generalize sy_rs E 0 5 357 = E at X hQ
  refine lv_iconst (v := 0) hx hb dX11_init_101 (by decide) ?_
  refine lv_istore_n (lv' := [(3, .int 0), (2, .ref (sy_ad EB 9)), (1, .ref (sy_ad EB 1)), (0, .ref (sy_ad EB 0))]) hx hb dX11_init_102 rfl hl (by decide) rfl (fun ls hl => ?_)
  have L103 : (∀ (E : sy_ET) (T : sy_St) (H : Heap) (locs : List Loc) (ls : Array Slot), sy_Wd E A s T H locs → sy_Q EB E (348 + 5 * 2) (yT E0 0 (fun x => if x = 5 then some 357 else if x = 4 then some 55 else if x = 3 then some 50 else if x = 2 then some 45 else if x = 1 then some 35 else if x = 0 then some 1 else none) 357 (fun x => if x < 2 then some (358 + 5 * x) else none) (358 + 5 * 2)) → yI T (358 + 5 * 2) → lv_has ls 4 [(3, .int (nI 2)), (2, .ref (sy_ad EB 9)), (1, .ref (sy_ad EB 1)), (0, .ref (sy_ad EB 0))] → W p l e (sy_rmC 4 83 391 3147) s m args below meth c H locs (357 + 5 * 2) (2784 + 35 * 2) (MQ below (sy_QC E0 A 391 (yR E0 0 392) (fun T => ∃ U, yI U 392 ∧ T = sy_up (sy_up U 0 14 (-1)) 0 15 0)) args s 391 3147 A) (F0 m 128 ls [])) → ∀ (d i : Nat), i + d = 2 → ∀ (E : sy_ET) (T : sy_St) (H : Heap) (locs : List Loc) (ls : Array Slot), sy_Wd E A s T H locs → sy_Q EB E (348 + 5 * i) (yT E0 0 (fun x => if x = 5 then some 357 else if x = 4 then some 55 else if x = 3 then some 50 else if x = 2 then some 45 else if x = 1 then some 35 else if x = 0 then some 1 else none) 357 (fun x => if x < i then some (358 + 5 * x) else none) (358 + 5 * i)) → yI T (358 + 5 * i) → lv_has ls 4 [(3, .int (nI i)), (2, .ref (sy_ad EB 9)), (1, .ref (sy_ad EB 1)), (0, .ref (sy_ad EB 0))] → W p l e (sy_rmC 4 83 391 3147) s m args below meth c H locs (357 + 5 * i) (2784 + 35 * i) (MQ below (sy_QC E0 A 391 (yR E0 0 392) (fun T => ∃ U, yI U 392 ∧ T = sy_up (sy_up U 0 14 (-1)) 0 15 0)) args s 391 3147 A) (F0 m 103 ls []) := by
    intro kend d
    induction d with
    | zero =>
      intro i hi E T H locs ls X hQ hI hl
      have h60 : i = 2 := by omega
      subst h60
      refine lv_iload_n hx hb dX11_init_103 rfl (lv_at hl 0 rfl) ?_
      refine lv_iconst (v := 2) hx hb dX11_init_104 (by decide) ?_
      refine lv_icmp_ge (tgt := 128) hx hb dX11_init_105 (by decide) (fun c1 => ?_) (fun c1 => absurd (by decide) c1)
      exact kend E T H locs ls X hQ hI hl
    | succ d ih =>
      intro i hi E T H locs ls X hQ hI hl
      have hi60 : i < 2 := by omega
      obtain ⟨s1, s2, s3⟩ := ySky_358 i hi60
      have hn := (KN hQ).1
      have hrr := hQ.2.2.2.2.2.2.2.2.1
      refine lv_iload_n hx hb dX11_init_103 rfl (lv_at hl 0 rfl) ?_
      refine lv_iconst (v := 2) hx hb dX11_init_104 (by decide) ?_
      refine lv_icmp_ge (tgt := 128) hx hb dX11_init_105 (by decide) (fun c1 => absurd c1 (nI_ge (b := 2) hi60 (by omega))) (fun c1 => ?_)
      refine lv_aload_n hx hb dX11_init_108 rfl (lv_at hl 3 rfl) ?_
      rw [← (KN hQ).2.2.2.2 0 (by omega)]
      refine sy_q10 fx X (IO hQ) 5 (by decide) wm_29 (fun _ h9 => h9) rfl (a := 357) (by rw [hrr]; rfl) dX11_init_109 ?_
      refine lv_iload_n hx hb dX11_init_112 rfl (lv_at hl 0 rfl) ?_
      refine sy_new9 fx hA X (KN hQ).2.2.2.1 wm_15 (by rw [(KN hQ).2.1, show 10 + (348 + 5 * i) = 358 + 5 * i by omega]; exact s2) (fun j => by rw [hrr, hn]; exact yT_z r0 (by omega) (by omega) (by omega)) (hI.2.1 _ (by omega)) (by show 357 + 5 * i + 1 ≤ 391; omega) (by show 2784 + 35 * i + 11 ≤ 3147; omega) dX11_init_113 (fun q H X => ?_)
      have hq2 := sy_ne_q (E := E) (q := q)
      rw [hn, show 10 + (348 + 5 * i) = 358 + 5 * i by omega] at hq2
      have h56 : sy_ad (sy_ne E q) 357 = sy_ad E 357 := sy_ne_ad (by omega)
      have hQ1 := sy_Q_n (q := q) hQ
      generalize sy_ne E q = E1 at X hQ1 hq2 h56
      have hr1 := hQ1.2.2.2.2.2.2.2.2.1
      have hn1 := (KN hQ1).1
      obtain ⟨rb, S1, hc, hf, hv⟩ := ySky_b (S := T) (k := 358 + 5 * i) (by omega) hI.1.2.1 hI.1.2.2.1
      refine lv_dup hx hb dX11_init_116 rfl ?_
      refine lv_aload_n hx hb dX11_init_117 rfl (lv_at hl 2 rfl) ?_
      refine sy_cc (rest := [.ref q, .int (nI i), .ref (sy_ad E 357)]) fx hA hao X hl.1 (k_Sky l (k := 358 + 5 * i) ⟨s1, s2, s3⟩ (OE hQ1 (by omega) (by omega)) hc (A0 hQ1 (by omega) (by omega) (by omega) hI)) ci_Sky wm_82 ⟨Nat.le_of_ble_eq_true rfl, Nat.le_of_ble_eq_true rfl, by show 357 + 5 * i + 1 + 4 ≤ 391; omega, by show 2784 + 35 * i + 11 + 24 ≤ 3147; omega⟩ rfl (by rw [hq2, (KN hQ1).2.2.2.2 1 (by omega)]; rfl) (Nat.le_of_ble_eq_true rfl) dX11_init_118 (fun E2 S2 H locs hQ2 hp X => ?_)
      have hp : S2 = S1 := hp
      rw [hp] at X
      have a56 : sy_ad E2 357 = sy_ad E 357 := by rw [hQ2.2.2.2.2.2.2.2.1 357 (by omega)]; exact h56
      have aq : sy_ad E2 (358 + 5 * i) = q := by rw [hQ2.2.2.2.2.2.2.2.1 (358 + 5 * i) (by omega)]; exact hq2
      have hQ3 := sy_Q_c (sy_Q_t hQ1 hQ2) rfl (yT_c (n := 358 + 5 * i) (n2 := 358 + 5 * i + 5) hr1 (by omega) (by omega) (by omega))
      have hn3 := (KN hQ3).1
      refine sy_ast fx X (k := 357) (n := 2) (a := 358 + 5 * i) ⟨by omega, by rw [hQ3.2.1, KB]; decide +kernel, by rw [hQ3.2.2.1, LB]; decide +kernel⟩ ⟨by omega, by rw [hQ3.2.1, KB]; exact s2⟩ (zz_in hi60 (by omega)) a56 aq dX11_init_121 (fun H locs X => ?_)
      rw [zz_cl (show i < 2147483648 by omega)] at X
      have hQ4 := sy_Q_c (sy_Q_r (k := 357) (j := i) (a := 358 + 5 * i) hQ3 (by omega)) rfl (yT_g (by omega))
      generalize sy_rs E2 357 i (358 + 5 * i) = E5 at X hQ4
      refine lv_iinc (v := nI (i + 1)) (lv' := [(3, .int (nI (i + 1))), (2, .ref (sy_ad EB 9)), (1, .ref (sy_ad EB 1)), (0, .ref (sy_ad EB 0))]) hx hb dX11_init_122 hl (k := 0) rfl (by rw [← nI_1]; rfl) (by decide) rfl (fun ls hl => ?_)
      refine lv_goto (tgt := 103) hx hb dX11_init_125 (by decide) ?_
      refine W.widen (k := 357 + 5 * (i + 1)) (n := 2784 + 35 * (i + 1)) (by omega) (by omega) ?_
      refine ih (i + 1) (by omega) E5 S1 H locs ls X (sy_Q_c hQ4 (by omega) ?_) (by rw [show 358 + 5 * (i + 1) = 358 + 5 * i + 5 by omega]; exact yI_s hI (by omega) (by omega) (by omega) hf hv) hl
      rw [show 358 + 5 * i + 5 = 358 + 5 * (i + 1) by omega]
      congr 1
      funext x
      by_cases z : x = i
      · rw [if_pos z, if_pos (by omega), z]
      · rw [if_neg z]
        by_cases z2 : x < i
        · rw [if_pos z2, if_pos (by omega)]
        · rw [if_neg z2, if_neg (by omega)]
  refine W.widen (k := 357 + 5 * 0) (n := 2784 + 35 * 0) (by decide) (by decide) ?_
  refine L103 (fun E T H locs ls X hQ hI hl => ?_) 2 0 rfl _ _ H locs ls X (by rw [show (fun x => if x < 0 then some (358 + 5 * x) else none) = (fun _ => none : Nat → Option Nat) from funext fun x => if_neg (by omega)]; exact hQ) hI hl
  clear L103
  have hQ : sy_Q EB E 358 (yT E0 0 (fun x => if x = 5 then some 357 else if x = 4 then some 55 else if x = 3 then some 50 else if x = 2 then some 45 else if x = 1 then some 35 else if x = 0 then some 1 else none) 0 (fun _ => none) 368) := sy_Q_c hQ rfl ((yT_e (by omega) (fun x => by unfold yF; rw [show yK 357 = 14 by decide +kernel]; rfl)).trans yT_k)
  refine lv_aload_n hx hb dX11_init_128 rfl (lv_at hl 3 rfl) ?_
  refine lv_iconst (v := 2) hx hb dX11_init_129 (by decide) ?_
  refine sy_newZ fx hA X (KN hQ).2.2.2.1 (N := 2) (by rw [(KN hQ).2.1]; decide +kernel) (by rw [(KN hQ).2.2.1]; decide +kernel) (hI.2.1 _ (by rw [(KN hQ).1]; omega)) (by decide) rfl (Nat.le_of_ble_eq_true rfl) (Nat.le_of_ble_eq_true rfl) (Nat.le_of_ble_eq_true rfl) dX11_init_130 (fun q H X => ?_)
  have hq2 := sy_ne_q (E := E) (q := q)
  rw [(KN hQ).1] at hq2
  have hQ : sy_Q EB (sy_ne E q) 359 (yT E0 0 (fun x => if x = 5 then some 357 else if x = 4 then some 55 else if x = 3 then some 50 else if x = 2 then some 45 else if x = 1 then some 35 else if x = 0 then some 1 else none) 0 (fun _ => none) 369) := sy_Q_c (sy_Q_n (q := q) hQ) rfl (yT_n r0 (by omega) (Or.inr (by decide +kernel)))
  generalize sy_ne E q = E at X hQ hq2
  have hI : yI T 369 := yI_le hI (by omega) (by omega)
  refine sy_h10 fx hin X (IO hQ) 6 (by decide) wm_31 (fun _ h9 => h9) rfl rfl (ty := .array .boolean) (by decide +kernel) rfl rfl ((KN hQ).2.2.2.2 0 (by omega)) (a := 368) hq2 (by simp [sy_f10, sy_rv_rs]) dX11_init_132 (fun H locs X => ?_)
  have hQ : sy_Q EB _ 359 (yT E0 0 (fun x => if x = 6 then some 368 else if x = 5 then some 357 else if x = 4 then some 55 else if x = 3 then some 50 else if x = 2 then some 45 else if x = 1 then some 35 else if x = 0 then some 1 else none) 0 (fun _ => none) 369) := sy_Q_c (sy_Q_r (k := 0) (j := 6) (a := 368) hQ (by rw [(KN hQ).1]; omega)) rfl yT_f
  generalize sy_rs E 0 6 368 = E at X hQ
  refine lv_aload_n hx hb dX11_init_135 rfl (lv_at hl 3 rfl) ?_
  refine lv_iconst (v := 2) hx hb dX11_init_136 (by decide) ?_
  refine sy_newI fx hA X (KN hQ).2.2.2.1 (N := 2) (by rw [(KN hQ).2.1]; decide +kernel) (by rw [(KN hQ).2.2.1]; decide +kernel) (hI.2.1 _ (by rw [(KN hQ).1]; omega)) (by decide) rfl (Nat.le_of_ble_eq_true rfl) (Nat.le_of_ble_eq_true rfl) (Nat.le_of_ble_eq_true rfl) dX11_init_137 (fun q H X => ?_)
  have hq2 := sy_ne_q (E := E) (q := q)
  rw [(KN hQ).1] at hq2
  have hQ : sy_Q EB (sy_ne E q) 360 (yT E0 0 (fun x => if x = 6 then some 368 else if x = 5 then some 357 else if x = 4 then some 55 else if x = 3 then some 50 else if x = 2 then some 45 else if x = 1 then some 35 else if x = 0 then some 1 else none) 0 (fun _ => none) 370) := sy_Q_c (sy_Q_n (q := q) hQ) rfl (yT_n r0 (by omega) (Or.inl (by decide +kernel)))
  generalize sy_ne E q = E at X hQ hq2
  have hI : yI T 370 := yI_le hI (by omega) (by omega)
  refine sy_h10 fx hin X (IO hQ) 7 (by decide) wm_33 (fun _ h9 => h9) rfl rfl (ty := .array .int) (by decide +kernel) rfl rfl ((KN hQ).2.2.2.2 0 (by omega)) (a := 369) hq2 (by simp [sy_f10, sy_rv_rs]) dX11_init_139 (fun H locs X => ?_)
  have hQ : sy_Q EB _ 360 (yT E0 0 (fun x => if x = 7 then some 369 else if x = 6 then some 368 else if x = 5 then some 357 else if x = 4 then some 55 else if x = 3 then some 50 else if x = 2 then some 45 else if x = 1 then some 35 else if x = 0 then some 1 else none) 0 (fun _ => none) 370) := sy_Q_c (sy_Q_r (k := 0) (j := 7) (a := 369) hQ (by rw [(KN hQ).1]; omega)) rfl yT_f
  generalize sy_rs E 0 7 369 = E at X hQ
  refine lv_aload_n hx hb dX11_init_142 rfl (lv_at hl 3 rfl) ?_
  refine sy_new8 fx hA X (KN hQ).2.2.2.1 wm_34 (by rw [(KN hQ).2.1]; decide +kernel) (fun j => by rw [hQ.2.2.2.2.2.2.2.2.1, (KN hQ).1]; exact yT_z r0 (by omega) (by omega) (by omega)) (hI.2.1 _ (by rw [(KN hQ).1]; omega)) (Nat.le_of_ble_eq_true rfl) (Nat.le_of_ble_eq_true rfl) dX11_init_143 (fun q H X => ?_)
  have hq2 := sy_ne_q (E := E) (q := q)
  rw [(KN hQ).1] at hq2
  have hQ1 := sy_Q_n (q := q) hQ
  generalize sy_ne E q = E1 at X hQ1 hq2
  have hr1 := hQ1.2.2.2.2.2.2.2.2.1
  have hn1 := (KN hQ1).1
  refine lv_dup hx hb dX11_init_146 rfl ?_
  refine lv_aload_n hx hb dX11_init_147 rfl (lv_at hl 2 rfl) ?_
  refine lv_aload_n hx hb dX11_init_148 rfl (lv_at hl 1 rfl) ?_
  refine sy_cc (rest := [.ref q, .ref (sy_ad EB 0)]) fx hA hao X hl.1 (k_Shift l (A0 (n := 370) hQ1 rfl (by omega) (by omega) hI)) ci_Shift wm_118 ⟨Nat.le_of_ble_eq_true rfl, Nat.le_of_ble_eq_true rfl, Nat.le_of_ble_eq_true rfl, Nat.le_of_ble_eq_true rfl⟩ rfl (by rw [hq2, (KN hQ1).2.2.2.2 1 (by omega), (KN hQ1).2.2.2.2 9 (by omega)]; rfl) (Nat.le_of_ble_eq_true rfl) dX11_init_149 (fun E2 S2 H locs hQ2 hp X => ?_)
  have hv2 : sy_ad E2 370 = q := by rw [hQ2.2.2.2.2.2.2.2.1 370 (by omega)]; exact hq2
  have hQ : sy_Q EB E2 364 (yT E0 0 (fun x => if x = 7 then some 369 else if x = 6 then some 368 else if x = 5 then some 357 else if x = 4 then some 55 else if x = 3 then some 50 else if x = 2 then some 45 else if x = 1 then some 35 else if x = 0 then some 1 else none) 0 (fun _ => none) 374) := sy_Q_c (sy_Q_t hQ1 hQ2) rfl (yT_c (n := 370) (n2 := 374) hr1 (by omega) (by omega) (by omega))
  have hp : S2 = T := hp
  rw [hp] at X
  have hI : yI T 374 := yI_le hI (by omega) (by omega)
  refine sy_h10 fx hin X (IO hQ) 8 (by decide) wm_37 (fun _ h9 => h9) rfl rfl (ty := .object "SkyTurns$ShiftRows") (by decide +kernel) rfl rfl ((KN hQ).2.2.2.2 0 (by omega)) (a := 370) hv2 (by simp [sy_f10, sy_rv_rs]) dX11_init_152 (fun H locs X => ?_)
  have hQ : sy_Q EB _ 364 (yT E0 0 (fun x => if x = 8 then some 370 else if x = 7 then some 369 else if x = 6 then some 368 else if x = 5 then some 357 else if x = 4 then some 55 else if x = 3 then some 50 else if x = 2 then some 45 else if x = 1 then some 35 else if x = 0 then some 1 else none) 0 (fun _ => none) 374) := sy_Q_c (sy_Q_r (k := 0) (j := 8) (a := 370) hQ (by rw [(KN hQ).1]; omega)) rfl yT_f
  generalize sy_rs E2 0 8 370 = E at X hQ
  refine lv_aload_n hx hb dX11_init_155 rfl (lv_at hl 3 rfl) ?_
  refine sy_new7 fx hA X (KN hQ).2.2.2.1 wm_38 (by rw [(KN hQ).2.1]; decide +kernel) (fun j => by rw [hQ.2.2.2.2.2.2.2.2.1, (KN hQ).1]; exact yT_z r0 (by omega) (by omega) (by omega)) (hI.2.1 _ (by rw [(KN hQ).1]; omega)) (Nat.le_of_ble_eq_true rfl) (Nat.le_of_ble_eq_true rfl) dX11_init_156 (fun q H X => ?_)
  have hq2 := sy_ne_q (E := E) (q := q)
  rw [(KN hQ).1] at hq2
  have hQ1 := sy_Q_n (q := q) hQ
  generalize sy_ne E q = E1 at X hQ1 hq2
  have hr1 := hQ1.2.2.2.2.2.2.2.2.1
  have hn1 := (KN hQ1).1
  refine lv_dup hx hb dX11_init_159 rfl ?_
  refine lv_aload_n hx hb dX11_init_160 rfl (lv_at hl 2 rfl) ?_
  refine lv_aload_n hx hb dX11_init_161 rfl (lv_at hl 1 rfl) ?_
  refine sy_cc (rest := [.ref q, .ref (sy_ad EB 0)]) fx hA hao X hl.1 (k_Seen l (A0 (n := 374) hQ1 rfl (by omega) (by omega) hI)) ci_Seen wm_131 ⟨Nat.le_of_ble_eq_true rfl, Nat.le_of_ble_eq_true rfl, Nat.le_of_ble_eq_true rfl, Nat.le_of_ble_eq_true rfl⟩ rfl (by rw [hq2, (KN hQ1).2.2.2.2 1 (by omega), (KN hQ1).2.2.2.2 9 (by omega)]; rfl) (Nat.le_of_ble_eq_true rfl) dX11_init_162 (fun E2 S2 H locs hQ2 hp X => ?_)
  have hv2 : sy_ad E2 374 = q := by rw [hQ2.2.2.2.2.2.2.2.1 374 (by omega)]; exact hq2
  have hQ : sy_Q EB E2 369 (yT E0 0 (fun x => if x = 8 then some 370 else if x = 7 then some 369 else if x = 6 then some 368 else if x = 5 then some 357 else if x = 4 then some 55 else if x = 3 then some 50 else if x = 2 then some 45 else if x = 1 then some 35 else if x = 0 then some 1 else none) 0 (fun _ => none) 379) := sy_Q_c (sy_Q_t hQ1 hQ2) rfl (yT_c (n := 374) (n2 := 379) hr1 (by omega) (by omega) (by omega))
  have hp : S2 = T := hp
  rw [hp] at X
  have hI : yI T 379 := yI_le hI (by omega) (by omega)
  refine sy_h10 fx hin X (IO hQ) 9 (by decide) wm_41 (fun _ h9 => h9) rfl rfl (ty := .object "SkyTurns$SeenRows") (by decide +kernel) rfl rfl ((KN hQ).2.2.2.2 0 (by omega)) (a := 374) hv2 (by simp [sy_f10, sy_rv_rs]) dX11_init_165 (fun H locs X => ?_)
  have hQ : sy_Q EB _ 369 (yT E0 0 (fun x => if x = 9 then some 374 else if x = 8 then some 370 else if x = 7 then some 369 else if x = 6 then some 368 else if x = 5 then some 357 else if x = 4 then some 55 else if x = 3 then some 50 else if x = 2 then some 45 else if x = 1 then some 35 else if x = 0 then some 1 else none) 0 (fun _ => none) 379) := sy_Q_c (sy_Q_r (k := 0) (j := 9) (a := 374) hQ (by rw [(KN hQ).1]; omega)) rfl yT_f
  generalize sy_rs E2 0 9 374 = E at X hQ
  refine lv_aload_n hx hb dX11_init_168 rfl (lv_at hl 3 rfl) ?_
  refine sy_new1 fx hA X (KN hQ).2.2.2.1 wm_42 (by rw [(KN hQ).2.1]; decide +kernel) (fun j => by rw [hQ.2.2.2.2.2.2.2.2.1, (KN hQ).1]; exact yT_z r0 (by omega) (by omega) (by omega)) (hI.2.1 _ (by rw [(KN hQ).1]; omega)) (Nat.le_of_ble_eq_true rfl) (Nat.le_of_ble_eq_true rfl) dX11_init_169 (fun q H X => ?_)
  have hq2 := sy_ne_q (E := E) (q := q)
  rw [(KN hQ).1] at hq2
  have hQ1 := sy_Q_n (q := q) hQ
  generalize sy_ne E q = E1 at X hQ1 hq2
  have hr1 := hQ1.2.2.2.2.2.2.2.2.1
  have hn1 := (KN hQ1).1
  refine lv_dup hx hb dX11_init_172 rfl ?_
  refine lv_aload_n hx hb dX11_init_173 rfl (lv_at hl 2 rfl) ?_
  refine sy_cc (rest := [.ref q, .ref (sy_ad EB 0)]) fx hA hao X hl.1 (k_Chain l (A0 (n := 379) hQ1 rfl (by omega) (by omega) hI)) ci_Chain wm_137 ⟨Nat.le_of_ble_eq_true rfl, Nat.le_of_ble_eq_true rfl, Nat.le_of_ble_eq_true rfl, Nat.le_of_ble_eq_true rfl⟩ rfl (by rw [hq2, (KN hQ1).2.2.2.2 1 (by omega)]; rfl) (Nat.le_of_ble_eq_true rfl) dX11_init_174 (fun E2 S2 H locs hQ2 hp X => ?_)
  have hv2 : sy_ad E2 379 = q := by rw [hQ2.2.2.2.2.2.2.2.1 379 (by omega)]; exact hq2
  have hQ : sy_Q EB E2 374 (yT E0 0 (fun x => if x = 9 then some 374 else if x = 8 then some 370 else if x = 7 then some 369 else if x = 6 then some 368 else if x = 5 then some 357 else if x = 4 then some 55 else if x = 3 then some 50 else if x = 2 then some 45 else if x = 1 then some 35 else if x = 0 then some 1 else none) 0 (fun _ => none) 384) := sy_Q_c (sy_Q_t hQ1 hQ2) rfl (yT_c (n := 379) (n2 := 384) hr1 (by omega) (by omega) (by omega))
  have hp : S2 = T := hp
  rw [hp] at X
  have hI : yI T 384 := yI_le hI (by omega) (by omega)
  refine sy_h10 fx hin X (IO hQ) 10 (by decide) wm_45 (fun _ h9 => h9) rfl rfl (ty := .object "SkyTurns$Chain") (by decide +kernel) rfl rfl ((KN hQ).2.2.2.2 0 (by omega)) (a := 379) hv2 (by simp [sy_f10, sy_rv_rs]) dX11_init_177 (fun H locs X => ?_)
  have hQ : sy_Q EB _ 374 (yT E0 0 (fun x => if x = 10 then some 379 else if x = 9 then some 374 else if x = 8 then some 370 else if x = 7 then some 369 else if x = 6 then some 368 else if x = 5 then some 357 else if x = 4 then some 55 else if x = 3 then some 50 else if x = 2 then some 45 else if x = 1 then some 35 else if x = 0 then some 1 else none) 0 (fun _ => none) 384) := sy_Q_c (sy_Q_r (k := 0) (j := 10) (a := 379) hQ (by rw [(KN hQ).1]; omega)) rfl yT_f
  generalize sy_rs E2 0 10 379 = E at X hQ
  refine lv_aload_n hx hb dX11_init_180 rfl (lv_at hl 3 rfl) ?_
  refine sy_new0 fx hA X (KN hQ).2.2.2.1 wm_46 (by rw [(KN hQ).2.1]; decide +kernel) (fun j => by rw [hQ.2.2.2.2.2.2.2.2.1, (KN hQ).1]; exact yT_z r0 (by omega) (by omega) (by omega)) (hI.2.1 _ (by rw [(KN hQ).1]; omega)) (Nat.le_of_ble_eq_true rfl) (Nat.le_of_ble_eq_true rfl) dX11_init_181 (fun q H X => ?_)
  have hq2 := sy_ne_q (E := E) (q := q)
  rw [(KN hQ).1] at hq2
  have hQ1 := sy_Q_n (q := q) hQ
  generalize sy_ne E q = E1 at X hQ1 hq2
  have hr1 := hQ1.2.2.2.2.2.2.2.2.1
  have hn1 := (KN hQ1).1
  refine lv_dup hx hb dX11_init_184 rfl ?_
  refine sy_ccN (rest := [.ref q, .ref (sy_ad EB 0)]) fx hA hao X hl.1 (k_Book l (A0 (n := 384) hQ1 rfl (by omega) (by omega) hI)) ci_Book hN.2.2.1 ⟨Nat.le_of_ble_eq_true rfl, Nat.le_of_ble_eq_true rfl, Nat.le_of_ble_eq_true rfl, Nat.le_of_ble_eq_true rfl⟩ rfl (by rw [hq2]; rfl) (Nat.le_of_ble_eq_true rfl) dX11_init_185 (fun E2 S2 H locs hQ2 hp X => ?_)
  have hv2 : sy_ad E2 384 = q := by rw [hQ2.2.2.2.2.2.2.2.1 384 (by omega)]; exact hq2
  have hQ : sy_Q EB E2 378 (yT E0 0 (fun x => if x = 10 then some 379 else if x = 9 then some 374 else if x = 8 then some 370 else if x = 7 then some 369 else if x = 6 then some 368 else if x = 5 then some 357 else if x = 4 then some 55 else if x = 3 then some 50 else if x = 2 then some 45 else if x = 1 then some 35 else if x = 0 then some 1 else none) 0 (fun _ => none) 388) := sy_Q_c (sy_Q_t hQ1 hQ2) rfl (yT_c (n := 384) (n2 := 388) hr1 (by omega) (by omega) (by omega))
  have hp : S2 = T := hp
  rw [hp] at X
  have hI : yI T 388 := yI_le hI (by omega) (by omega)
  refine sy_h10 fx hin X (IO hQ) 11 (by decide) wm_49 (fun _ h9 => h9) rfl rfl (ty := .object "SkyTurns$Book") (by decide +kernel) rfl rfl ((KN hQ).2.2.2.2 0 (by omega)) (a := 384) hv2 (by simp [sy_f10, sy_rv_rs]) dX11_init_188 (fun H locs X => ?_)
  have hQ : sy_Q EB _ 378 (yT E0 0 (fun x => if x = 11 then some 384 else if x = 10 then some 379 else if x = 9 then some 374 else if x = 8 then some 370 else if x = 7 then some 369 else if x = 6 then some 368 else if x = 5 then some 357 else if x = 4 then some 55 else if x = 3 then some 50 else if x = 2 then some 45 else if x = 1 then some 35 else if x = 0 then some 1 else none) 0 (fun _ => none) 388) := sy_Q_c (sy_Q_r (k := 0) (j := 11) (a := 384) hQ (by rw [(KN hQ).1]; omega)) rfl yT_f
  generalize sy_rs E2 0 11 384 = E at X hQ
  refine lv_aload_n hx hb dX11_init_191 rfl (lv_at hl 3 rfl) ?_
  refine sy_new2 fx hA X (KN hQ).2.2.2.1 wm_50 (by rw [(KN hQ).2.1]; decide +kernel) (fun j => by rw [hQ.2.2.2.2.2.2.2.2.1, (KN hQ).1]; exact yT_z r0 (by omega) (by omega) (by omega)) (hI.2.1 _ (by rw [(KN hQ).1]; omega)) (Nat.le_of_ble_eq_true rfl) (Nat.le_of_ble_eq_true rfl) dX11_init_192 (fun q H X => ?_)
  have hq2 := sy_ne_q (E := E) (q := q)
  rw [(KN hQ).1] at hq2
  have hQ1 := sy_Q_n (q := q) hQ
  generalize sy_ne E q = E1 at X hQ1 hq2
  have hr1 := hQ1.2.2.2.2.2.2.2.2.1
  have hn1 := (KN hQ1).1
  refine lv_dup hx hb dX11_init_195 rfl ?_
  refine lv_aload_n hx hb dX11_init_196 rfl (lv_at hl 2 rfl) ?_
  refine sy_cc (rest := [.ref q, .ref (sy_ad EB 0)]) fx hA hao X hl.1 (k_Debts l (A0 (n := 388) hQ1 rfl (by omega) (by omega) hI)) ci_Debts wm_152 ⟨Nat.le_of_ble_eq_true rfl, Nat.le_of_ble_eq_true rfl, Nat.le_of_ble_eq_true rfl, Nat.le_of_ble_eq_true rfl⟩ rfl (by rw [hq2, (KN hQ1).2.2.2.2 1 (by omega)]; rfl) (Nat.le_of_ble_eq_true rfl) dX11_init_197 (fun E2 S2 H locs hQ2 hp X => ?_)
  have hv2 : sy_ad E2 388 = q := by rw [hQ2.2.2.2.2.2.2.2.1 388 (by omega)]; exact hq2
  have hQ : sy_Q EB E2 381 (yT E0 0 (fun x => if x = 11 then some 384 else if x = 10 then some 379 else if x = 9 then some 374 else if x = 8 then some 370 else if x = 7 then some 369 else if x = 6 then some 368 else if x = 5 then some 357 else if x = 4 then some 55 else if x = 3 then some 50 else if x = 2 then some 45 else if x = 1 then some 35 else if x = 0 then some 1 else none) 0 (fun _ => none) 391) := sy_Q_c (sy_Q_t hQ1 hQ2) rfl (yT_c (n := 388) (n2 := 391) hr1 (by omega) (by omega) (by omega))
  have hp : S2 = T := hp
  rw [hp] at X
  have hI : yI T 391 := yI_le hI (by omega) (by omega)
  refine sy_h10 fx hin X (IO hQ) 12 (by decide) wm_53 (fun _ h9 => h9) rfl rfl (ty := .object "SkyTurns$Debts") (by decide +kernel) rfl rfl ((KN hQ).2.2.2.2 0 (by omega)) (a := 388) hv2 (by simp [sy_f10, sy_rv_rs]) dX11_init_200 (fun H locs X => ?_)
  have hQ : sy_Q EB _ 381 (yT E0 0 (fun x => if x = 12 then some 388 else if x = 11 then some 384 else if x = 10 then some 379 else if x = 9 then some 374 else if x = 8 then some 370 else if x = 7 then some 369 else if x = 6 then some 368 else if x = 5 then some 357 else if x = 4 then some 55 else if x = 3 then some 50 else if x = 2 then some 45 else if x = 1 then some 35 else if x = 0 then some 1 else none) 0 (fun _ => none) 391) := sy_Q_c (sy_Q_r (k := 0) (j := 12) (a := 388) hQ (by rw [(KN hQ).1]; omega)) rfl yT_f
  generalize sy_rs E2 0 12 388 = E at X hQ
  refine lv_aload_n hx hb dX11_init_203 rfl (lv_at hl 3 rfl) ?_
  refine sy_new4 fx hA X (KN hQ).2.2.2.1 wm_54 (by rw [(KN hQ).2.1]; decide +kernel) (fun j => by rw [hQ.2.2.2.2.2.2.2.2.1, (KN hQ).1]; exact yT_z r0 (by omega) (by omega) (by omega)) (hI.2.1 _ (by rw [(KN hQ).1]; omega)) (Nat.le_of_ble_eq_true rfl) (Nat.le_of_ble_eq_true rfl) dX11_init_204 (fun q H X => ?_)
  have hq2 := sy_ne_q (E := E) (q := q)
  rw [(KN hQ).1] at hq2
  have hQ1 := sy_Q_n (q := q) hQ
  generalize sy_ne E q = E1 at X hQ1 hq2
  have hr1 := hQ1.2.2.2.2.2.2.2.2.1
  have hn1 := (KN hQ1).1
  refine lv_dup hx hb dX11_init_207 rfl ?_
  refine sy_ccN (rest := [.ref q, .ref (sy_ad EB 0)]) fx hA hao X hl.1 (k_Game l (A0 (n := 391) hQ1 rfl (by omega) (by omega) hI)) ci_Game hN.2.2.2.1 ⟨Nat.le_of_ble_eq_true rfl, Nat.le_of_ble_eq_true rfl, Nat.le_of_ble_eq_true rfl, Nat.le_of_ble_eq_true rfl⟩ rfl (by rw [hq2]; rfl) (Nat.le_of_ble_eq_true rfl) dX11_init_208 (fun E2 S2 H locs hQ2 hp X => ?_)
  have hv2 : sy_ad E2 391 = q := by rw [hQ2.2.2.2.2.2.2.2.1 391 (by omega)]; exact hq2
  have hQ : sy_Q EB E2 382 (yT E0 0 (fun x => if x = 12 then some 388 else if x = 11 then some 384 else if x = 10 then some 379 else if x = 9 then some 374 else if x = 8 then some 370 else if x = 7 then some 369 else if x = 6 then some 368 else if x = 5 then some 357 else if x = 4 then some 55 else if x = 3 then some 50 else if x = 2 then some 45 else if x = 1 then some 35 else if x = 0 then some 1 else none) 0 (fun _ => none) 392) := sy_Q_c (sy_Q_t hQ1 hQ2) rfl (yT_c (n := 391) (n2 := 392) hr1 (by omega) (by omega) (by omega))
  have hp : S2 = T := hp
  rw [hp] at X
  have hI : yI T 392 := yI_le hI (by omega) (by omega)
  refine sy_h10 fx hin X (IO hQ) 13 (by decide) wm_57 (fun _ h9 => h9) rfl rfl (ty := .object "SkyTurns$Game") (by decide +kernel) rfl rfl ((KN hQ).2.2.2.2 0 (by omega)) (a := 391) hv2 (by simp [sy_f10, sy_rv_rs]) dX11_init_211 (fun H locs X => ?_)
  have hQ : sy_Q EB _ 382 (yT E0 0 (fun x => if x = 13 then some 391 else if x = 12 then some 388 else if x = 11 then some 384 else if x = 10 then some 379 else if x = 9 then some 374 else if x = 8 then some 370 else if x = 7 then some 369 else if x = 6 then some 368 else if x = 5 then some 357 else if x = 4 then some 55 else if x = 3 then some 50 else if x = 2 then some 45 else if x = 1 then some 35 else if x = 0 then some 1 else none) 0 (fun _ => none) 392) := sy_Q_c (sy_Q_r (k := 0) (j := 13) (a := 391) hQ (by rw [(KN hQ).1]; omega)) rfl yT_f
  generalize sy_rs E2 0 13 391 = E at X hQ
  refine lv_aload_n hx hb dX11_init_214 rfl (lv_at hl 3 rfl) ?_
  refine lv_iconst (v := -1) hx hb dX11_init_215 (by decide) ?_
  rw [← (KN hQ).2.2.2.2 0 (by omega)]
  obtain ⟨SA, hSA⟩ : ∃ T2, T2 = sy_up T 0 14 (-1) := ⟨_, rfl⟩
  refine sy_p10 fx X (IO hQ) 14 (by decide) wm_58 (fun _ h9 => h9) rfl (ty := .int) (by decide +kernel) rfl rfl hSA sy_s10_14 dX11_init_216 (fun H locs X => ?_)
  refine lv_aload_n hx hb dX11_init_219 rfl (lv_at hl 3 rfl) ?_
  refine lv_iconst (v := 0) hx hb dX11_init_220 (by decide) ?_
  rw [← (KN hQ).2.2.2.2 0 (by omega)]
  obtain ⟨SC, hSC⟩ : ∃ T2, T2 = sy_up SA 0 15 0 := ⟨_, rfl⟩
  refine sy_p10 fx X (IO hQ) 15 (by decide) wm_59 (fun _ h9 => h9) rfl (ty := .int) (by decide +kernel) rfl rfl hSC sy_s10_15 dX11_init_221 (fun H locs X => ?_)
  refine sy_cret fx X hr hlk (sy_Q_c (sy_Q_t hQB hQ) rfl (yT_R (by omega) (fun x => ?_))) ⟨T, hI, by rw [hSC, hSA]⟩ (Nat.le_of_ble_eq_true rfl) (Nat.le_of_ble_eq_true rfl) dX11_init_224
  by_cases hx14 : x < 14
  · exact (show ∀ x, x < 14 → (fun x => if x = 13 then some 391 else if x = 12 then some 388 else if x = 11 then some 384 else if x = 10 then some 379 else if x = 9 then some 374 else if x = 8 then some 370 else if x = 7 then some 369 else if x = 6 then some 368 else if x = 5 then some 357 else if x = 4 then some 55 else if x = 3 then some 50 else if x = 2 then some 45 else if x = 1 then some 35 else if x = 0 then some 1 else none) x = yF 0 x by decide +kernel) x hx14
  · have : yF 0 x = yFk 10 0 x := by unfold yF; rw [show yK 0 = 10 by decide +kernel]
    rw [this]
    unfold yFk
    simp only [show ¬ x = 0 by omega, show ¬ x = 1 by omega, show ¬ x = 2 by omega, show ¬ x = 3 by omega, show ¬ x = 4 by omega, show ¬ x = 5 by omega, show ¬ x = 6 by omega, show ¬ x = 7 by omega, show ¬ x = 8 by omega, show ¬ x = 9 by omega, show ¬ x = 10 by omega, show ¬ x = 11 by omega, show ¬ x = 12 by omega, show ¬ x = 13 by omega, if_false]
