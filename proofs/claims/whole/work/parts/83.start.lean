/-! ===== the law from its entry ===== -/
theorem ci_Top : sy_cI yX11_init cX11_init 4 0 := ⟨wm_7, wm_2, wm_8, rfl, by decide +kernel⟩
theorem ci_Model : sy_cI yX12_init cX12_init 1 0 := ⟨wm_163, wm_5, wm_164, rfl, by decide +kernel⟩
set_option maxRecDepth 100000 in
set_option maxHeartbeats 40000000 in
theorem lw_known {s : State} {args : Array Value} (hW : ∀ w ∈ sy_W, w.before args s = true) : ∃ (dC : Nat → ClassId) (dI : Nat → Nat → Nat), ∀ (k : Nat) (q : vw_C), vwCl[k]? = some q → u_Kn s q.1 q.2.1 q.2.2 (dC k) (dI k) := by
  obtain ⟨c0, i0, h0⟩ := u_known (C := RX0) (T := TX0) (N := 4) (n := 4) hW inW0 (hW _ wm_47)
  obtain ⟨c1, i1, h1⟩ := u_known (C := RX1) (T := TX1) (N := 6) (n := 6) hW inW1 (hW _ wm_43)
  obtain ⟨c2, i2, h2⟩ := u_known (C := RX2) (T := TX2) (N := 3) (n := 3) hW inW2 (hW _ wm_51)
  obtain ⟨c3, i3, h3⟩ := u_known (C := RX3) (T := TX3) (N := 10) (n := 10) hW inW3 (hW _ wm_13)
  obtain ⟨c4, i4, h4⟩ := u_known (C := RX4) (T := TX4) (N := 8) (n := 8) hW inW4 (hW _ wm_55)
  obtain ⟨c5, i5, h5⟩ := u_known (C := RX5) (T := TX5) (N := 3) (n := 3) hW inW5 (hW _ wm_26)
  obtain ⟨c6, i6, h6⟩ := u_known (C := RX6) (T := TX6) (N := 9) (n := 9) hW inW6 (hW _ wm_20)
  obtain ⟨c7, i7, h7⟩ := u_known (C := RX8) (T := TX8) (N := 10) (n := 10) hW inW8 (hW _ wm_39)
  obtain ⟨c8, i8, h8⟩ := u_known (C := RX9) (T := TX9) (N := 9) (n := 9) hW inW9 (hW _ wm_35)
  obtain ⟨c9, i9, h9⟩ := u_known (C := RX10) (T := TX10) (N := 11) (n := 11) hW inW10 (hW _ wm_16)
  obtain ⟨c10, i10, h10⟩ := u_known (C := RX11) (T := TX11) (N := 16) (n := 16) hW inW11 (hW _ wm_1)
  obtain ⟨c11, i11, h11⟩ := u_known (C := RX12) (T := TX12) (N := 35) (n := 35) hW inW12 (hW _ wm_4)
  refine ⟨fun k => if k = 0 then c0 else if k = 1 then c1 else if k = 2 then c2 else if k = 3 then c3 else if k = 4 then c4 else if k = 5 then c5 else if k = 6 then c6 else if k = 7 then c7 else if k = 8 then c8 else if k = 9 then c9 else if k = 10 then c10 else c11, fun k => if k = 0 then i0 else if k = 1 then i1 else if k = 2 then i2 else if k = 3 then i3 else if k = 4 then i4 else if k = 5 then i5 else if k = 6 then i6 else if k = 7 then i7 else if k = 8 then i8 else if k = 9 then i9 else if k = 10 then i10 else i11, ?_⟩
  intro k q hq
  match k, hq with
  | 0, hq => cases hq; exact h0
  | 1, hq => cases hq; exact h1
  | 2, hq => cases hq; exact h2
  | 3, hq => cases hq; exact h3
  | 4, hq => cases hq; exact h4
  | 5, hq => cases hq; exact h5
  | 6, hq => cases hq; exact h6
  | 7, hq => cases hq; exact h7
  | 8, hq => cases hq; exact h8
  | 9, hq => cases hq; exact h9
  | 10, hq => cases hq; exact h10
  | 11, hq => cases hq; exact h11
  | k + 12, hq => simp [vwCl] at hq
set_option maxRecDepth 100000 in
theorem lw_Nw {s : State} {args : Array Value} (hts : ∀ w ∈ lw_tbl, w.before args s = true) : sy_Nw s :=
  ⟨va_Nw.of rfl (hts _ (tk_3 _ (List.mem_of_getElem? (i := 158) rfl))), va_Nw.of rfl (hts _ (tk_1 _ (List.mem_of_getElem? (i := 149) rfl))), va_Nw.of rfl (hts _ (tk_2 _ (List.mem_of_getElem? (i := 74) rfl))), va_Nw.of rfl (hts _ (tk_2 _ (List.mem_of_getElem? (i := 110) rfl))), va_Nw.of rfl (hts _ (tk_3 _ (List.mem_of_getElem? (i := 230) rfl))), va_Nw.of rfl (hts _ (tk_4 _ (List.mem_of_getElem? (i := 1) rfl))), va_Nw.of rfl (hts _ (tk_4 _ (List.mem_of_getElem? (i := 14) rfl)))⟩
set_option maxRecDepth 100000 in
theorem lw_AO {s : State} {args : Array Value} (hts : ∀ w ∈ lw_tbl, w.before args s = true) : va_AO RX10 s := va_AO.of (A := args) (hts _ (tk_1 _ (List.mem_of_getElem? (i := 92) rfl)))
theorem lw_arrs {s : State} {args : Array Value} (hW : ∀ w ∈ sy_W, w.before args s = true) (hao : va_AO RX10 s) : ∃ cI cZ cY : ClassId, ∀ (k : Nat) (q : ClassId × FieldType), ([(cI, .int), (cZ, .boolean), (cY, .object "SkyTurns$Sky")] : List (ClassId × FieldType))[k]? = some q → ArrOfT s q.1 q.2 ∧ va_RA s q.1 q.2 := by
  obtain ⟨cI, kI, compI, fI, hI, tI⟩ := Cond.arrayClass_spec (hW _ wm_32)
  obtain ⟨cZ, kZ, compZ, fZ, hZ, tZ⟩ := Cond.arrayClass_spec (hW _ wm_30)
  obtain ⟨comp, cY, kY, h1, h2, h3, h4, h5⟩ := Cond.arrayOver_spec hao
  refine ⟨cI, cZ, cY, fun k q hq => ?_⟩
  match k, hq with
  | 0, hq => cases hq; exact ⟨fun n z => ⟨fun k h => (by cases h), kI, hI, compI, tI⟩, fI⟩
  | 1, hq => cases hq; exact ⟨fun n z => ⟨fun k h => (by cases h), kZ, hZ, compZ, tZ⟩, fZ⟩
  | 2, hq => cases hq; exact ⟨fun n z => ⟨fun k h => (by cases h), kY, h3, comp, h4⟩, kY, comp, h3, h4, h1, h5⟩
  | k + 3, hq => simp at hq
set_option maxRecDepth 100000 in
set_option maxHeartbeats 40000000 in
/-- THE LAW, from its entry -/
theorem whole_start {p : Program} {e : Env} {s : State} {m : MethodId} {below : List Frame} {meth : Method} {c : Code} (l : Launch) (hflags : l.flags = flags0) {b L : Nat} {xs : Nat → Int32} (hL : L ≤ 384) (C0 : lw_At p s m meth c b L xs) : W p l e room_1 s m #[Value.ref b] below meth c s.heap [] 0 0 (lw_Z below #[Value.ref b] s) (entryFrame m ([Value.ref b] : List Value).toArray 4) := by
  obtain ⟨hx, hb, hr, hml, hown, hts, hX, hbl, hlocks, hgv⟩ := id C0
  have hW := sy_W_hts hts
  have fx : CallFix p m c code 4 s #[Value.ref b] sy_W RL := ⟨hx, hb, hml, hown, hW⟩
  have hA : ∀ q : Nat, s.heap.size ≤ q → (fun q : Nat => s.heap.size ≤ q) q := fun _ h => h
  have hN := lw_Nw hts
  have hao := lw_AO hts
  obtain ⟨dC, dI, hKc⟩ := lw_known hW
  obtain ⟨cI, cZ, cY, hKa⟩ := lw_arrs hW hao
  obtain ⟨E0, hE0⟩ : ∃ E : sy_ET, E = ((dC, dI), cI, cZ, cY, (fun _ => 0), (0, yK, yL, fun _ _ => none)) := ⟨_, rfl⟩
  have n0 : sy_n E0 = 0 := by rw [hE0]; rfl
  have K0 : sy_k E0 = yK := by rw [hE0]; rfl
  have L0 : sy_l E0 = yL := by rw [hE0]; rfl
  have r0 : ∀ i j, sy_r E0 i j = none := fun i j => by rw [hE0]; rfl
  have cl0 : sy_clo E0 := fun k j a h => by rw [r0] at h; cases h
  have X : sy_Wd E0 (fun q : Nat => s.heap.size ≤ q) s (fun _ _ => 0) s.heap [] := by
    rw [hE0]
    exact ⟨⟨⟨hKc, hKa⟩, hN⟩, fun k q h => by simp [sy_wl, sy_n] at h, ⟨fun i j p q h => by simp [sy_wl, sy_n] at h, fun k q h => by simp [sy_wl, sy_n] at h⟩, va_S.rf⟩
  have hl := lv_entry ([.ref b]) (n := 4) (Nat.le_of_ble_eq_true rfl)
  rw [lg_entry_eq]
  generalize (lg_sl ([.ref b]) ++ List.replicate (4 - (lg_sl ([.ref b])).length) Slot.unset).toArray = ls at hl ⊢
  have hl : lv_has ls 4 [(0, .ref b)] := hl
  refine sy_new10 fx hA X cl0 wm_0 (by rw [n0, K0]; decide +kernel) (fun j => r0 _ j) rfl (Nat.le_of_ble_eq_true rfl) (Nat.le_of_ble_eq_true rfl) dL_law_0 (fun q H X => ?_)
  have hq := sy_ne_q (E := E0) (q := q)
  rw [n0] at hq
  have hQ1 := sy_Q_n (q := q) (sy_Q_0 cl0)
  generalize sy_ne E0 q = E1 at X hQ1 hq
  have n1 : sy_n E1 = 1 := by rw [hQ1.1, n0]
  have r1 : ∀ i j, sy_r E1 i j = none := fun i j => by rw [hQ1.2.2.2.2.2.2.2.2.1]; exact r0 i j
  refine lv_dup hx hb dL_law_3 rfl ?_
  refine sy_cc (rest := [.ref q]) fx hA hao X hl.1 (k_Top l (E0 := E1) ⟨n1, by rw [hQ1.2.1, K0], by rw [hQ1.2.2.1, L0], hQ1.2.2.2.2.2.2.2.2.2, fun i j _ => r1 i j, fun _ _ => rfl⟩) ci_Top wm_6 ⟨Nat.le_of_ble_eq_true rfl, Nat.le_of_ble_eq_true rfl, Nat.le_of_ble_eq_true rfl, Nat.le_of_ble_eq_true rfl⟩ rfl (by rw [hq]; rfl) (Nat.le_of_ble_eq_true rfl) dL_law_4 (fun E2 T H locs hQ2 hp X => ?_)
  obtain ⟨U, hU, hT⟩ := hp
  have n2 : sy_n E2 = 392 := by rw [hQ2.1, n1]
  have K2 : sy_k E2 = yK := by rw [hQ2.2.1, hQ1.2.1, K0]
  have L2 : sy_l E2 = yL := by rw [hQ2.2.2.1, hQ1.2.2.1, L0]
  have r2 : sy_r E2 = yR E1 0 392 := hQ2.2.2.2.2.2.2.2.2.1
  have r2z : ∀ i j, 392 ≤ i → sy_r E2 i j = none := fun i j hi => by rw [r2]; unfold yR; rw [if_neg (by omega)]; exact r1 i j
  have a2 : sy_ad E2 0 = q := by rw [hQ2.2.2.2.2.2.2.2.1 0 (by omega)]; exact hq
  have tz : ∀ i, 392 ≤ i → T i = fun _ => 0 := fun i hi => by rw [hT, zz_up1 (by omega), zz_up1 (by omega)]; exact hU.2.1 i hi
  refine lv_astore_n (lv' := [(1, .ref q), (0, .ref b)]) hx hb dL_law_7 rfl hl (by decide) rfl (fun ls hl => ?_)
  refine sy_new11 fx hA X hQ2.2.2.2.2.2.2.2.2.2 wm_3 (by rw [n2, K2]; decide +kernel) (fun j => r2z _ j (by omega)) (tz _ (by omega)) (Nat.le_of_ble_eq_true rfl) (Nat.le_of_ble_eq_true rfl) dL_law_8 (fun q2 H X => ?_)
  have hq2 := sy_ne_q (E := E2) (q := q2)
  rw [n2] at hq2
  have a3 : sy_ad (sy_ne E2 q2) 0 = q := by rw [sy_ne_ad (by omega)]; exact a2
  have hQ3 := sy_Q_n (q := q2) (sy_Q_0 hQ2.2.2.2.2.2.2.2.2.2)
  generalize sy_ne E2 q2 = E3 at X hQ3 hq2 a3
  have n3 : sy_n E3 = 393 := by rw [hQ3.1, n2]
  have K3 : sy_k E3 = yK := by rw [hQ3.2.1, K2]
  have L3 : sy_l E3 = yL := by rw [hQ3.2.2.1, L2]
  have r3 : sy_r E3 = sy_r E2 := hQ3.2.2.2.2.2.2.2.2.1
  obtain ⟨rb, S1, hc, -⟩ := zq_begin (S := sy_up T 392 6 (-1)) (pn := 0) (by rw [zz_upo, if_neg (by omega), tz 392 (by omega)]; rfl) (by omega)
  refine lv_dup hx hb dL_law_11 rfl ?_
  refine sy_cc (rest := [.ref q2]) fx hA hao X hl.1 (k_Model l (E0 := E3) hc ⟨n3, K3, L3, hQ3.2.2.2.2.2.2.2.2.2, fun i j hi => by rw [r3]; exact r2z i j hi, fun i hi => tz i hi⟩) ci_Model wm_162 ⟨Nat.le_of_ble_eq_true rfl, Nat.le_of_ble_eq_true rfl, Nat.le_of_ble_eq_true rfl, Nat.le_of_ble_eq_true rfl⟩ rfl (by rw [hq2]; rfl) (Nat.le_of_ble_eq_true rfl) dL_law_12 (fun E4 S2 H locs hQ4 hp X => ?_)
  have hI : zi_Inv S2 (100 * 0) := yInv0 hU hT hc hp
  have n4 : sy_n E4 = 410 := by rw [hQ4.1, n3]
  have K4 : sy_k E4 = yK := by rw [hQ4.2.1, K3]
  have L4 : sy_l E4 = yL := by rw [hQ4.2.2.1, L3]
  have r4 : sy_r E4 = yR E3 392 410 := hQ4.2.2.2.2.2.2.2.2.1
  have a4 : sy_ad E4 0 = q := by rw [hQ4.2.2.2.2.2.2.2.1 0 (by omega)]; exact a3
  have b4 : sy_ad E4 392 = q2 := by rw [hQ4.2.2.2.2.2.2.2.1 392 (by omega)]; exact hq2
  have oT : sy_OTop E4 := yOTop (by omega) K4 L4 (fun i x hi => by
    rw [r4]
    unfold yR
    rw [if_neg (by omega), r3, r2]
    unfold yR
    rw [if_pos (by omega)])
  have oM : sy_OModel E4 := yOModel (by omega) K4 L4 (fun x _ => by
    rw [r4]
    unfold yR
    rw [if_pos (by omega)])
  refine lv_astore_n (lv' := [(2, .ref q2), (1, .ref q), (0, .ref b)]) hx hb dL_law_15 rfl hl (by decide) rfl (fun ls hl => ?_)
  refine lv_iconst (v := 0) hx hb dL_law_16 (by decide) ?_
  refine lv_istore_n (lv' := [(3, .int 0), (2, .ref q2), (1, .ref q), (0, .ref b)]) hx hb dL_law_17 rfl hl (by decide) rfl (fun ls hl => ?_)
  rw [← a4, ← b4] at hl
  exact lw_loop fx hr hlocks hA (fun _ h => h) hX hbl oT oM hL (Nat.le_of_ble_eq_true rfl) (Nat.le_of_ble_eq_true rfl) 64 0 (by omega) S2 H locs ls X hI hl (by omega)
