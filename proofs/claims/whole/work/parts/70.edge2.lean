/-! ===== edge, tied ===== -/
theorem zx_v0_W {fr : Int32} {pn : Nat} : zv_W (zx_v0 fr (if pn = 0 then -1 else 0)) pn 0 := by
  refine ⟨⟨0, Nat.le_refl _, rfl⟩, (show (0 : Int32) ≤ 0 ∧ (0 : Int32) ≤ 99 by decide), ?_, Or.inl rfl, fun p hp => ?_, fun p hp => ?_⟩
  · show (pn = 0 ∧ (if pn = 0 then (-1 : Int32) else 0) = -1) ∨ ∃ h, h < pn ∧ (if pn = 0 then (-1 : Int32) else 0) = nI h
    by_cases h : pn = 0
    · exact Or.inl ⟨h, by rw [if_pos h]⟩
    · exact Or.inr ⟨0, by omega, by rw [if_neg h]; rfl⟩
  · unfold zx_v0
    rw [if_neg (by omega), if_neg (by omega), if_neg (by omega)]
    decide
  · refine ⟨0, by omega, ?_⟩
    unfold zx_v0
    rw [if_neg (by omega), if_neg (by omega), if_neg (by omega)]
    rfl
theorem zp_edgeFlags {S : sy_St} {k : Int32 → sy_St → sy_R} : zz_wp (sy_fix (fun _ _ => none) m_Top_edge_B83 sy_F 0 S) (fun r S1 => r = S 1 8 ∧ (∀ i, i ≠ 368 → S1 i = S i) ∧ ∀ i, i < 2 → S1 368 i = 0) := by
  refine zz_loopX (ap := fun (kk : zt_1) (u : Nat × sy_St) => kk (nI u.1) u.2) (fun u => 2 - u.1) (fun u => u.1 ≤ 2 ∧ (∀ i, i ≠ 368 → u.2 i = S i) ∧ ∀ x, x < u.1 → u.2 368 x = 0) ?_ sy_F (0, S) (zz_F (by simp only; omega)) ⟨by simp only; omega, fun _ _ => rfl, fun x hx => absurd hx (Nat.not_lt_zero _)⟩
  rintro kk ⟨i, T⟩ ⟨hi, hf, hz⟩ hkk
  simp only at hi hf hz hkk ⊢
  unfold m_Top_edge_B83
  rw [zz_i]
  refine ⟨fun hle => ?_, fun hnle => ?_⟩
  · have hi2 : i = 2 := by
      rcases Nat.lt_or_ge i 2 with q | q
      · exact absurd hle (nI_ge (b := 2) q (by omega))
      · omega
    subst hi2
    rw [zz_some]
    exact ⟨by rw [hf 1 (by omega)], hf, hz⟩
  · have hi2 : i < 2 := nI_lt_of (n := 2) hnle (by omega) (by omega)
    rw [zz_g, zz_b, zz_b, nI_1]
    refine ⟨zz_in (by omega) (by omega), ?_⟩
    simp only [zz_cl (show i < 2147483648 by omega), show vp_nar .boolean 0 = 0 by decide]
    refine hkk (i + 1, sy_up T 368 i 0) ⟨by simp only; omega, fun x hx => by simp only; rw [zz_up1 hx, hf x hx], fun x hx => ?_⟩ (by simp only; omega)
    simp only at hx ⊢
    rw [zz_upo]
    by_cases q : x = i
    · rw [if_pos q]
    · rw [if_neg q]; exact hz x (by omega)
/-- what the reference copies out of what it read -/
theorem zq_edgeCopy {T : sy_St} {D : zx_D} {hw : Bool} (hV : zx_V D) (h : zx_md T hw D) : zz_wp (sy_b (sy_up T 392 17 (T 392 8)) fun S7 => sy_fix (fun _ _ => none) (m_Model_edge_B37) sy_F 0 S7) (fun r T1 => r = nI D.2.2.1 ∧ (∀ i, i ≠ 392 → (i < 397 ∨ 399 < i) → i ≠ 400 → i ≠ 403 → T1 i = T i) ∧ (∀ j, j ≠ 17 → j ≠ 19 → j ≠ 26 → j ≠ 28 → j ≠ 30 → T1 392 j = T 392 j) ∧ ze_M T1 (zx_e D.2.1 D.2.2.2.1 D.2.2.2.2.2.1) D.1 D.2.2.1 ∧ T1 392 26 = 0 ∧ T1 392 28 = 0 ∧ T1 392 30 = 0 ∧ (∀ i, i < 2 → T1 403 i = 0) ∧ T1 400 6 = T 400 6 ∧ zv_M T1 400 0 = zx_v0 D.2.2.2.2.2.2.2 (if D.2.2.1 = 0 then -1 else 0)) := by
  obtain ⟨d1, d2, d3, d4, d5, d6, d7, d8, d9⟩ := h
  have w12 : D.1 ≤ 12 := hV.1
  have p6 : D.2.2.1 ≤ 6 := hV.2.1
  generalize D.2.2.1 = pn at *
  generalize D.1 = wn at *
  rw [zz_b, d1]
  refine zz_loopX (ap := fun (kk : zt_1) (u : Nat × sy_St) => kk (nI u.1) u.2) (fun u => wn - u.1) (fun u => u.1 ≤ wn ∧ (∀ i, i ≠ 392 → i ≠ 397 → u.2 i = T i) ∧ (∀ j, u.2 392 j = if j = 17 then nI wn else T 392 j) ∧ ∀ x, x < u.1 → u.2 397 x = T 394 x) ?_ sy_F (0, sy_up T 392 17 (nI wn)) (zz_F (by simp only; omega)) ⟨by simp only; omega, fun i a _ => by simp only; rw [zz_up1 a], fun j => by simp only; rw [zz_upo], fun x hx => absurd hx (Nat.not_lt_zero _)⟩
  rintro kk ⟨i, U⟩ ⟨hi, uo, u392, u397⟩ hkk
  simp only at hi uo u392 u397 hkk ⊢
  unfold m_Model_edge_B37
  rw [zz_i, show U 392 17 = nI wn by rw [u392, if_pos rfl]]
  refine ⟨fun hle => ?_, fun hnle => ?_⟩
  · have := nI_eq_of hle hi (by omega)
    subst this
    rw [zz_b, show U 392 10 = nI pn by rw [u392, if_neg (by omega), d3]]
    refine zz_loopX (ap := fun (kk : zt_1) (u : Nat × sy_St) => kk (nI u.1) u.2) (fun u => 5 * pn - u.1) (fun u => u.1 ≤ 5 * pn ∧ (∀ j, j ≠ 392 → j ≠ 398 → u.2 j = U j) ∧ (∀ j, u.2 392 j = if j = 19 then nI pn else U 392 j) ∧ ∀ x, x < u.1 → u.2 398 x = U 395 x) ?_ sy_F (0, sy_up U 392 19 (nI pn)) (zz_F (by simp only; omega)) ⟨by simp only; omega, fun i a _ => by simp only; rw [zz_up1 a], fun j => by simp only; rw [zz_upo], fun x hx => absurd hx (Nat.not_lt_zero _)⟩
    rintro kk2 ⟨i2, V⟩ ⟨hi2, vo, v392, v398⟩ hkk2
    simp only at hi2 vo v392 v398 hkk2 ⊢
    unfold m_Model_edge_B73
    rw [zz_i, show V 392 19 = nI pn by rw [v392, if_pos rfl], show (5 : Int32) = nI 5 from rfl, pk_mul]
    refine ⟨fun hle2 => ?_, fun hnle2 => ?_⟩
    · have := nI_eq_of hle2 hi2 (by omega)
      subst this
      refine zz_loopX (ap := fun (kk : zt_1) (u : Nat × sy_St) => kk (nI u.1) u.2) (fun u => 3 - u.1) (fun u => u.1 ≤ 3 ∧ (∀ j, j ≠ 399 → u.2 j = V j) ∧ ∀ x, x < u.1 → u.2 399 x = V 396 x) ?_ sy_F (0, V) (zz_F (by simp only; omega)) ⟨by simp only; omega, fun i a => rfl, fun x hx => absurd hx (Nat.not_lt_zero _)⟩
      rintro kk3 ⟨i3, W⟩ ⟨hi3, wo, w399⟩ hkk3
      simp only at hi3 wo w399 hkk3 ⊢
      unfold m_Model_edge_B103
      rw [zz_i]
      refine ⟨fun hle3 => ?_, fun hnle3 => ?_⟩
      · have h33 : i3 = 3 := by
          rcases Nat.lt_or_ge i3 3 with q | q
          · exact absurd hle3 (nI_ge (b := 3) q (by omega))
          · omega
        subst h33
        have w392 : ∀ j, W 392 j = if j = 19 then nI pn else if j = 17 then nI i else T 392 j := fun j => by rw [wo 392 (by omega), v392, u392]
        rw [zz_c]
        refine zz_mono (zq_begin (pn := pn) (by rw [w392, if_pos rfl]) p6) (fun _ X ⟨x1, x2, x3, x4, x5, x6, x7⟩ => ?_)
        rw [zz_b, zz_some, show (3 : Int32).toNatClampNeg = 3 from rfl]
        have xT : ∀ j, j ≠ 392 → (j < 397 ∨ 399 < j) → j ≠ 400 → j ≠ 403 → X j = T j := fun j a b c d => by rw [x1 j a c d, wo j (by omega), vo j a (by omega), uo j a (by omega)]
        have e13 : X 392 13 = D.2.2.2.2.2.2.2 := by rw [x2 13 (by omega) (by omega) (by omega), w392, if_neg (by omega), if_neg (by omega), d9]
        rw [e13]
        obtain ⟨Y, hY⟩ : ∃ Y, Y = sy_up X 400 3 D.2.2.2.2.2.2.2 := ⟨_, rfl⟩
        rw [← hY]
        have yo : ∀ j, j ≠ 400 → Y j = X j := fun j a => by rw [hY, zz_up1 a]
        have y400 : ∀ j, Y 400 j = if j = 3 then D.2.2.2.2.2.2.2 else X 400 j := fun j => by rw [hY, zz_upo]
        refine ⟨?_, fun j a b c d => by rw [yo j c, xT j a b c d], fun j a b c d e => ?_, ⟨?_, ?_, fun j hj => ?_, fun j hj => ?_, fun j hj => ?_⟩, by rw [yo 392 (by omega), x3], by rw [yo 392 (by omega), x4], by rw [yo 392 (by omega), x5], fun j hj => by rw [yo 403 (by omega)]; exact x6 j hj, ?_, ?_⟩
        · rw [yo 392 (by omega), x2 19 (by omega) (by omega) (by omega), w392, if_pos rfl]
        · rw [yo 392 (by omega), x2 j c d e, w392, if_neg b, if_neg a]
        · rw [yo 392 (by omega), x2 17 (by omega) (by omega) (by omega), w392, if_neg (by omega), if_pos rfl]
        · rw [yo 392 (by omega), x2 19 (by omega) (by omega) (by omega), w392, if_pos rfl]
        · rw [yo 397 (by omega), x1 397 (by omega) (by omega) (by omega), wo 397 (by omega), vo 397 (by omega) (by omega), u397 j hj]; exact d2 j hj
        · rw [yo 398 (by omega), x1 398 (by omega) (by omega) (by omega), wo 398 (by omega), v398 j hj, uo 395 (by omega) (by omega)]; exact d4 j hj
        · rw [yo 399 (by omega), x1 399 (by omega) (by omega) (by omega), w399 j hj, vo 396 (by omega) (by omega), uo 396 (by omega) (by omega)]; exact d7 j hj
        · rw [y400, if_neg (by omega), x7 6 (by omega), if_pos rfl, wo 400 (by omega), vo 400 (by omega) (by omega), uo 400 (by omega) (by omega)]
        · funext j
          unfold zv_M zx_v0
          rw [Nat.zero_add]
          by_cases q6 : j = 6
          · subst q6; rfl
          · rw [if_neg q6]
            by_cases q31 : j < 31
            · rw [if_pos q31, y400]
              by_cases q3 : j = 3
              · rw [if_pos q3, if_pos q3]
              · rw [if_neg q3, if_neg q3, x7 j q31, if_neg q6]
            · rw [if_neg q31, if_neg (by omega), if_neg (by omega), if_neg (by omega)]
      · have h3 : i3 < 3 := nI_lt_of (n := 3) hnle3 (by omega) (by omega)
        rw [zz_g, zz_g, zz_b, zz_b, nI_1]
        refine ⟨zz_in (by omega) (by omega), zz_in (by omega) (by omega), ?_⟩
        simp only [zz_cl (show i3 < 2147483648 by omega)]
        refine hkk3 (i3 + 1, sy_up W 399 i3 (W 396 i3)) ⟨by simp only; omega, fun j a => by simp only; rw [zz_up1 a, wo j a], fun x hx => ?_⟩ (by simp only; omega)
        simp only at hx ⊢
        rw [zz_upo]
        by_cases q : x = i3
        · rw [if_pos q, q, wo 396 (by omega)]
        · rw [if_neg q]; exact w399 x (by omega)
    · have h3 := nI_lt_of hnle2 (by omega) (by omega)
      rw [zz_g, zz_g, zz_b, zz_b, nI_1]
      refine ⟨zz_in (by omega) (by omega), zz_in (by omega) (by omega), ?_⟩
      simp only [zz_cl (show i2 < 2147483648 by omega)]
      refine hkk2 (i2 + 1, sy_up V 398 i2 (V 395 i2)) ⟨by simp only; omega, fun j a b => by simp only; rw [zz_up1 b, vo j a b], fun j => by simp only; rw [zz_up1 (by omega), v392], fun x hx => ?_⟩ (by simp only; omega)
      simp only at hx ⊢
      rw [zz_upo]
      by_cases q : x = i2
      · rw [if_pos q, q, vo 395 (by omega) (by omega)]
      · rw [if_neg q]; exact v398 x (by omega)
  · have h3 := nI_lt_of hnle (by omega) (by omega)
    rw [zz_g, zz_g, zz_b, zz_b, nI_1]
    refine ⟨zz_in (by omega) (by omega), zz_in (by omega) (by omega), ?_⟩
    simp only [zz_cl (show i < 2147483648 by omega)]
    refine hkk (i + 1, sy_up U 397 i (U 394 i)) ⟨by simp only; omega, fun j a b => by simp only; rw [zz_up1 b, uo j a b], fun j => by simp only; rw [zz_up1 (by omega), u392], fun x hx => ?_⟩ (by simp only; omega)
    simp only at hx ⊢
    rw [zz_upo]
    by_cases q : x = i
    · rw [if_pos q, q, uo 394 (by omega) (by omega)]
    · rw [if_neg q]; exact u397 x (by omega)
theorem zo_edge : zo_ok m_Top_edge m_Model_edge := by
  intro S e wc M c hc g
  have gg := g
  obtain ⟨-, -, hseed, -, -, ⟨n, hn, x35, x392, xt⟩, -⟩ := g
  have ht : ∀ i, i < n → 0 ≤ S 393 i := fun i hi => (xt i hi).2
  unfold m_Top_edge
  rw [zz_c]
  refine zz_mono (zp_readText (t := S 393) hn ⟨x35, fun i hi => (xt i hi).1⟩) (fun _ S1 ⟨f1, y2, hR⟩ => ?_)
  rw [zz_b]
  obtain ⟨S4, hS4⟩ : ∃ S4, S4 = sy_up S1 0 14 (S1 35 4) := ⟨_, rfl⟩
  rw [← hS4]
  have s4o : ∀ i, i ≠ 0 → S4 i = S1 i := fun i a => by rw [hS4, zz_up1 a]
  have s40 : ∀ j, S4 0 j = if j = 14 then S1 35 4 else S1 0 j := fun j => by rw [hS4, zz_upo]
  -- the reference, from any state that holds what it reads
  have href : ∀ (V : sy_St) (Q : Int32 → sy_St → Prop), V 392 = S 392 → V 393 = S 393 →
      (∀ f T1, zx_text (S 393) n (n + 1) 0 zx_D0 = .inl f → zx_fm V T1 → zx_Y T1 f → Q (-10 - f.1) (sy_up T1 392 0 0)) →
      (∀ D T1 r T2, zx_text (S 393) n (n + 1) 0 zx_D0 = .inr D → zx_fm V T1 → T1 392 6 = -1 → zx_V D → r = nI D.2.2.1 ∧ (∀ i, i ≠ 392 → (i < 397 ∨ 399 < i) → i ≠ 400 → i ≠ 403 → T2 i = (sy_up T1 392 0 0) i) ∧ (∀ j, j ≠ 17 → j ≠ 19 → j ≠ 26 → j ≠ 28 → j ≠ 30 → T2 392 j = (sy_up T1 392 0 0) 392 j) ∧ ze_M T2 (zx_e D.2.1 D.2.2.2.1 D.2.2.2.2.2.1) D.1 D.2.2.1 ∧ T2 392 26 = 0 ∧ T2 392 28 = 0 ∧ T2 392 30 = 0 ∧ (∀ i, i < 2 → T2 403 i = 0) ∧ T2 400 6 = (sy_up T1 392 0 0) 400 6 ∧ zv_M T2 400 0 = zx_v0 D.2.2.2.2.2.2.2 (if D.2.2.1 = 0 then -1 else 0) → Q r T2) → zz_wp (m_Model_edge V) Q := by
    intro V Q v392 v393 q0 q1
    unfold m_Model_edge
    rw [zz_b, zz_c]
    have hmt : zx_mt (sy_up V 392 6 (-1)) (S 393) n := ⟨by rw [zz_upo, if_neg (by omega), v392]; exact x392, fun i hi => by rw [zz_up1 (by omega), v393]⟩
    have fV : zx_fm V (sy_up V 392 6 (-1)) := zx_fm_u (by omega)
    refine zz_mono (zq_isRead hn ht hmt (by rw [zz_upo, if_pos rfl])) (fun r T1 ⟨f, h⟩ => ?_)
    have fT := zx_fm_t fV f
    rw [zz_b]
    rcases h with ⟨f, e1, r0, y⟩ | ⟨D, e1, r1, e6, hV, md⟩
    · rw [r0, if_pos rfl, zz_some, zz_upo, if_neg (by omega), y.1]
      exact q0 f T1 e1 fT y
    · rw [r1, if_neg (by decide)]
      have md2 : zx_md (sy_up T1 392 0 0) (decide (0 < D.1)) D := zx_md_f (fun i j a => by
        rw [zz_up]
        by_cases q : i = 392
        · subst q; rw [if_pos rfl, if_neg (by omega)]
        · rw [if_neg q]) md
      exact zz_mono (zq_edgeCopy hV md2) (fun r T2 hh => q1 D T1 r T2 e1 fT e6 hV hh)
  rw [s4o 35 (by omega)]
  rcases hR with ⟨f, e1, k1, k2, k3⟩ | ⟨D, e1, k1, k2, hD⟩
  · rw [if_neg (by rw [k1]; exact k2), zz_some, k1]
    have f4 : ∀ i, i ≠ 0 → (i < 35 ∨ 44 < i) → S4 i = S i := fun i a b => by rw [s4o i a, f1 i b]
    refine href S4 _ (f4 392 (by omega) (by omega)) (f4 393 (by omega) (by omega)) (fun f2 T1 e2 fT y => ?_) (fun D T1 r T2 e2 => by rw [e1] at e2; cases e2)
    rw [e1] at e2
    cases e2
    refine ⟨rfl, ?_⟩
    obtain ⟨T2, hT2⟩ : ∃ T2, T2 = sy_up T1 392 0 0 := ⟨_, rfl⟩
    rw [← hT2]
    have t2o : ∀ i, i ≠ 392 → T2 i = T1 i := fun i a => by rw [hT2, zz_up1 a]
    have t2392 : ∀ j, T2 392 j = if j = 0 then 0 else T1 392 j := fun j => by rw [hT2, zz_upo]
    have all : ∀ i, i ≠ 0 → (i < 35 ∨ 44 < i) → i ≠ 392 → (i < 394 ∨ 396 < i) → T2 i = S i := fun i a b c d => by rw [t2o i c, fT.1 i c (by omega) (by omega) (by omega), f4 i a b]
    have al0 : ∀ j, j ≠ 14 → T2 0 j = S 0 j := fun j a => by rw [t2o 0 (by omega), fT.1 0 (by omega) (by omega) (by omega) (by omega), s40, if_neg a, f1 0 (by omega)]
    have al392 : ∀ j, 16 < j → T2 392 j = S 392 j := fun j a => by rw [t2392, if_neg (by omega), fT.2 j (by omega), f4 392 (by omega) (by omega)]
    obtain ⟨g1, g2, g3, g4, g5, g6, g7, g8, g9⟩ := zi_all_m (show c ≤ c + 100 by omega) gg
    refine ⟨e, wc, M, zi_edge_f (fun i j d => ?_) g1, zi_now_f (fun i j d => ?_) g2, zi_seed_f (fun i j d => ?_) g3, zi_past_f (fun i j d => ?_) g4, zi_img_f (fun i j d => ?_) g5, ⟨0, by omega, ?_, ?_, fun i hi => absurd hi (Nat.not_lt_zero _)⟩, ?_, zi_seen_f (fun i j d => ?_) g8, zi_book_f (fun i j d => ?_) g9⟩
    · unfold zd_edge at d
      by_cases q : i = 392
      · subst q; exact al392 j (by omega)
      · rw [all i (by omega) (by omega) q (by omega)]
    · unfold zd_now at d; rw [all i (by omega) (by omega) (by omega) (by omega)]
    · unfold zd_seed at d
      by_cases q : i = 0
      · subst q; exact al0 j (by omega)
      · rw [all i q (by omega) (by omega) (by omega)]
    · unfold zd_past at d
      by_cases q : i = 392
      · subst q; exact al392 j (by omega)
      · rw [all i (by omega) (by omega) q (by omega)]
    · unfold zd_img at d; rw [all i (by omega) (by omega) (by omega) (by omega)]
    · rw [t2o 35 (by omega), fT.1 35 (by omega) (by omega) (by omega) (by omega), s4o 35 (by omega), y2]; rfl
    · rw [t2392, if_pos rfl]; rfl
    · unfold zi_fault
      rw [t2o 0 (by omega), fT.1 0 (by omega) (by omega) (by omega) (by omega), s40, if_pos rfl, k3, t2392, if_neg (by omega), y.2.1]
    · unfold zd_seen at d
      by_cases q : i = 392
      · subst q; exact al392 j (by omega)
      · rw [all i (by omega) (by omega) q (by omega)]
    · unfold zd_book at d
      by_cases q : i = 392
      · subst q; exact al392 j (by omega)
      · rw [all i (by omega) (by omega) q (by omega)]
  · rw [if_pos k1, zz_c]
    have hD4 : zx_dr S4 D := zx_dr_f (fun i j d => by rw [s4o i (by omega)]) hD
    have p6 : D.2.2.1 ≤ 6 := hD.2.2.2.2.1
    refine zz_mono (zp_edgeCopy hD4) (fun _ S6 ⟨g6, c6, e9⟩ => ?_)
    rw [zz_c]
    refine zz_mono (zp_begin (k := 45) (pn := D.2.2.1) (by omega) c6.2.1 p6) (fun _ S9 ⟨g9, v9⟩ => ?_)
    unfold m_Past_forget m_Seen_clear m_Book_clear
    simp only [zz_c, zz_b, zz_some]
    obtain ⟨S18, hS18⟩ : ∃ S18, S18 = sy_up (sy_up (sy_up (sy_up S9 55 1 0) 55 2 0) 374 7 0) 384 3 0 := ⟨_, rfl⟩
    rw [← hS18]
    refine zz_mono (zp_edgeFlags (k := fun _ _ => none)) (fun r SE ⟨hr, ge, z368⟩ => ?_)
    have s18o : ∀ i, i ≠ 55 → i ≠ 374 → i ≠ 384 → S18 i = S9 i := fun i a b c => by rw [hS18, zz_up1 c, zz_up1 b, zz_up1 a, zz_up1 a]
    have hE : ∀ i, i ≠ 0 → ¬ (1 ≤ i ∧ i ≤ 8) → (i < 35 ∨ 49 < i) → i ≠ 55 → i ≠ 374 → i ≠ 384 → i ≠ 368 → SE i = S i := fun i a b d x y z w => by rw [ge i w, s18o i x y z, g9 i (by omega), g6 i b, s4o i a, f1 i (by omega)]
    have e18 : S18 1 8 = nI D.2.2.1 := by rw [s18o 1 (by omega) (by omega) (by omega), g9 1 (by omega)]; exact c6.2.1
    refine href SE _ (hE 392 (by omega) (by omega) (by omega) (by omega) (by omega) (by omega) (by omega)) (hE 393 (by omega) (by omega) (by omega) (by omega) (by omega) (by omega) (by omega)) (fun f T1 e2 => by rw [e1] at e2; cases e2) (fun D2 T1 r2 T2 e2 fT e6 hV hh => ?_)
    rw [e1] at e2
    cases e2
    obtain ⟨hr2, t1, t2, tM, t26, t28, t30, t403, t6, tv⟩ := hh
    refine ⟨by rw [hr2, hr, e18], ?_⟩
    have T1E : ∀ i, i ≠ 392 → (i < 394 ∨ 396 < i) → (i < 397 ∨ 399 < i) → i ≠ 400 → i ≠ 403 → T2 i = SE i := fun i a b d x y => by rw [t1 i a d x y, zz_up1 a, fT.1 i a (by omega) (by omega) (by omega)]
    have z0 : ∀ j, j ≠ 14 → T2 0 j = S 0 j := fun j a => by
      rw [T1E 0 (by omega) (by omega) (by omega) (by omega) (by omega), ge 0 (by omega), s18o 0 (by omega) (by omega) (by omega), g9 0 (by omega), g6 0 (by omega), s40, if_neg a, f1 0 (by omega)]
    refine ⟨zx_e D.2.1 D.2.2.2.1 D.2.2.2.2.2.1, D.1, D.2.2.1, ⟨hV, tM, ?_⟩, ⟨?_, ?_⟩, ⟨?_, ?_⟩, ⟨0, 0, by omega, by omega, ?_, ?_, t26, fun i hi => absurd hi (Nat.not_lt_zero _)⟩, fun i hi => ⟨?_, Or.inl ?_, fun q => ?_⟩, ⟨0, by omega, ?_, ?_, fun i hi => absurd hi (Nat.not_lt_zero _)⟩, ?_, ⟨0, by omega, ?_, t28, fun i hi => absurd hi (Nat.not_lt_zero _)⟩, ⟨0, by omega, ?_, t30, fun i hi => absurd hi (Nat.not_lt_zero _)⟩⟩
    · refine zr_eC (fun i a b => ?_) c6
      rw [T1E i (by omega) (by omega) (by omega) (by omega) (by omega), ge i (by omega), s18o i (by omega) (by omega) (by omega), g9 i (by omega)]
    · rw [tv, ← e9, ← v9]
      exact zv_Kc (fun i j a b => by rw [T1E i (by omega) (by omega) (by omega) (by omega) (by omega), ge i (by omega), s18o i (by omega) (by omega) (by omega)])
    · rw [tv]; exact zv_W_m zx_v0_W (by omega)
    · rw [z0 15 (by omega), t6, zz_up1 (by omega), fT.1 400 (by omega) (by omega) (by omega) (by omega), hE 400 (by omega) (by omega) (by omega) (by omega) (by omega) (by omega) (by omega)]; exact hseed.1
    · rw [t6, zz_up1 (by omega), fT.1 400 (by omega) (by omega) (by omega) (by omega), hE 400 (by omega) (by omega) (by omega) (by omega) (by omega) (by omega) (by omega)]; exact hseed.2
    · rw [T1E 55 (by omega) (by omega) (by omega) (by omega) (by omega), ge 55 (by omega), hS18]; simp [zz_up]; rfl
    · rw [T1E 55 (by omega) (by omega) (by omega) (by omega) (by omega), ge 55 (by omega), hS18]; simp [zz_up]; rfl
    · rw [T1E 368 (by omega) (by omega) (by omega) (by omega) (by omega), z368 i hi, t403 i hi]
    · rw [T1E 368 (by omega) (by omega) (by omega) (by omega) (by omega), z368 i hi]
    · rw [T1E 368 (by omega) (by omega) (by omega) (by omega) (by omega), z368 i hi] at q
      exact absurd q (by decide)
    · rw [T1E 35 (by omega) (by omega) (by omega) (by omega) (by omega), ge 35 (by omega), s18o 35 (by omega) (by omega) (by omega), g9 35 (by omega), g6 35 (by omega), s4o 35 (by omega), y2]; rfl
    · rw [t2 0 (by omega) (by omega) (by omega) (by omega) (by omega), zz_upo, if_pos rfl]; rfl
    · unfold zi_fault
      rw [T1E 0 (by omega) (by omega) (by omega) (by omega) (by omega), ge 0 (by omega), s18o 0 (by omega) (by omega) (by omega), g9 0 (by omega), g6 0 (by omega), s40, if_pos rfl, k2, t2 6 (by omega) (by omega) (by omega) (by omega) (by omega), zz_upo, if_neg (by omega), e6]
    · rw [T1E 374 (by omega) (by omega) (by omega) (by omega) (by omega), ge 374 (by omega), hS18]; simp [zz_up]; rfl
    · rw [T1E 384 (by omega) (by omega) (by omega) (by omega) (by omega), ge 384 (by omega), hS18]; simp [zz_up]; rfl
