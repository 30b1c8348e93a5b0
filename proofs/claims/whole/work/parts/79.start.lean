/-! ===== the world when both are made ===== -/
theorem yOTop {E : sy_ET} (hn : 391 < sy_n E) (hK : sy_k E = yK) (hL : sy_l E = yL) (hr : ∀ i x, i < 392 → sy_r E i x = yF i x) : sy_OTop E := by
  have aI : ∀ i n, i ≤ 391 → yK i = 12 → yL i = n → sy_isI E i n := fun i n h1 h2 h3 => ⟨by omega, by rw [hK]; exact h2, by rw [hL]; exact h3⟩
  have aZ : ∀ i n, i ≤ 391 → yK i = 13 → yL i = n → sy_isZ E i n := fun i n h1 h2 h3 => ⟨by omega, by rw [hK]; exact h2, by rw [hL]; exact h3⟩
  have aY : ∀ i n, i ≤ 391 → yK i = 14 → yL i = n → sy_isY E i n := fun i n h1 h2 h3 => ⟨by omega, by rw [hK]; exact h2, by rw [hL]; exact h3⟩
  have aO : ∀ i c, i ≤ 391 → yK i = c → sy_isO E c i := fun i c h1 h2 => ⟨by omega, by rw [hK]; exact h2⟩
  have ed : ∀ k, k + 7 < 392 → yEdge k → sy_OEdge E k := fun k hk he => yOEdge he (by omega) hK hL (fun j hj => by
    rw [hr k j (by omega)]
    unfold yF
    rw [he.1]
    show (if j < 7 then some (k + 1 + j) else none) = _
    rw [if_pos hj])
  have e1 := ed 1 (by omega) yEdge_1
  have e37 := ed 37 (by omega) yEdge_37
  have sk : ∀ k, k + 4 < 392 → ySky k → sy_OSky E k := fun k hk he => yOSky he e1 (by omega) hK hL (by
    rw [hr k 0 (by omega)]
    unfold yF
    rw [he.2.1]; rfl) (fun j hj => by
    rw [hr k (j + 1) (by omega)]
    unfold yF
    rw [he.2.1]
    show (if j + 1 = 0 then some 1 else if j + 1 < 5 then some (k + (j + 1)) else none) = _
    rw [if_neg (by omega), if_pos (by omega)])
  have ar : ∀ a n b, a ≤ 391 → b + 5 * n ≤ 392 → yK a = 14 → yL a = n → (∀ i, i < n → yF a i = some (b + 5 * i)) → (∀ d, d < n → ySky (b + 5 * d)) → sy_Arr E a n b := fun a n b h1 h2 h3 h4 h5 h6 => ⟨aY a n h1 h3 h4, fun i hi => ⟨by rw [hr a i (by omega)]; exact h5 i hi, sk _ (by omega) (h6 i hi)⟩⟩
  have r9 := ar 9 5 10 (by omega) (by omega) (by decide +kernel) (by decide +kernel) (by decide +kernel) ySky_10
  have r56 := ar 56 60 57 (by omega) (by omega) (by decide +kernel) (by decide +kernel) (by decide +kernel) ySky_57
  have r357 := ar 357 2 358 (by omega) (by omega) (by decide +kernel) (by decide +kernel) (by decide +kernel) ySky_358
  have q : ∀ i x v, i < 392 → yF i x = some v → sy_r E i x = some v := fun i x v hi h => by rw [hr i x hi]; exact h
  have oReader : sy_OReader E := ⟨aO 35 6 (by omega) (by decide +kernel), q 35 0 _ (by omega) (by decide +kernel), aI 36 250 (by omega) (by decide +kernel) (by decide +kernel), q 35 1 _ (by omega) (by decide +kernel), e37⟩
  have oPast : sy_OPast E := ⟨aO 55 5 (by omega) (by decide +kernel), q 55 0 _ (by omega) (by decide +kernel), r56⟩
  have oShift : sy_OShift E := ⟨aO 370 8 (by omega) (by decide +kernel), q 370 0 _ (by omega) (by decide +kernel), e1, q 370 1 _ (by omega) (by decide +kernel), r9, q 370 2 _ (by omega) (by decide +kernel), aI 371 5 (by omega) (by decide +kernel) (by decide +kernel), q 370 3 _ (by omega) (by decide +kernel), aI 372 6 (by omega) (by decide +kernel) (by decide +kernel), q 370 5 _ (by omega) (by decide +kernel), aI 373 5 (by omega) (by decide +kernel) (by decide +kernel)⟩
  have oSeen : sy_OSeen E := ⟨aO 374 7 (by omega) (by decide +kernel), q 374 0 _ (by omega) (by decide +kernel), e1, q 374 1 _ (by omega) (by decide +kernel), r9, q 374 2 _ (by omega) (by decide +kernel), aI 375 5 (by omega) (by decide +kernel) (by decide +kernel), q 374 3 _ (by omega) (by decide +kernel), aI 376 6 (by omega) (by decide +kernel) (by decide +kernel), q 374 5 _ (by omega) (by decide +kernel), aI 377 5 (by omega) (by decide +kernel) (by decide +kernel), q 374 6 _ (by omega) (by decide +kernel), aI 378 5 (by omega) (by decide +kernel) (by decide +kernel)⟩
  have oChain : sy_OChain E := ⟨aO 379 1 (by omega) (by decide +kernel), q 379 0 _ (by omega) (by decide +kernel), e1, q 379 1 _ (by omega) (by decide +kernel), aZ 380 6 (by omega) (by decide +kernel) (by decide +kernel), q 379 2 _ (by omega) (by decide +kernel), aZ 381 6 (by omega) (by decide +kernel) (by decide +kernel), q 379 3 _ (by omega) (by decide +kernel), aI 382 6 (by omega) (by decide +kernel) (by decide +kernel), q 379 4 _ (by omega) (by decide +kernel), aI 383 6 (by omega) (by decide +kernel) (by decide +kernel)⟩
  have oBook : sy_OBook E := ⟨aO 384 0 (by omega) (by decide +kernel), q 384 0 _ (by omega) (by decide +kernel), aI 385 20 (by omega) (by decide +kernel) (by decide +kernel), q 384 1 _ (by omega) (by decide +kernel), aI 386 20 (by omega) (by decide +kernel) (by decide +kernel), q 384 2 _ (by omega) (by decide +kernel), aZ 387 20 (by omega) (by decide +kernel) (by decide +kernel)⟩
  have oDebts : sy_ODebts E := ⟨aO 388 2 (by omega) (by decide +kernel), q 388 0 _ (by omega) (by decide +kernel), e1, q 388 1 _ (by omega) (by decide +kernel), aI 389 64 (by omega) (by decide +kernel) (by decide +kernel), q 388 2 _ (by omega) (by decide +kernel), aI 390 64 (by omega) (by decide +kernel) (by decide +kernel)⟩
  have oGame : sy_OGame E := aO 391 4 (by omega) (by decide +kernel)
  exact ⟨aO 0 10 (by omega) (by decide +kernel), q 0 0 _ (by omega) (by decide +kernel), e1, q 0 1 _ (by omega) (by decide +kernel), oReader, q 0 2 _ (by omega) (by decide +kernel), sk 45 (by omega) ySky_45, q 0 3 _ (by omega) (by decide +kernel), sk 50 (by omega) ySky_50, q 0 4 _ (by omega) (by decide +kernel), oPast, q 0 5 _ (by omega) (by decide +kernel), r357, q 0 6 _ (by omega) (by decide +kernel), aZ 368 2 (by omega) (by decide +kernel) (by decide +kernel), q 0 7 _ (by omega) (by decide +kernel), aI 369 2 (by omega) (by decide +kernel) (by decide +kernel), q 0 8 _ (by omega) (by decide +kernel), oShift, q 0 9 _ (by omega) (by decide +kernel), oSeen, q 0 10 _ (by omega) (by decide +kernel), oChain, q 0 11 _ (by omega) (by decide +kernel), oBook, q 0 12 _ (by omega) (by decide +kernel), oDebts, q 0 13 _ (by omega) (by decide +kernel), oGame⟩
/-- what is kept holds at the start -/
theorem yInv0 {U T S1 S2 : sy_St} {r : Int32} (hU : yI U 392) (hT : T = sy_up (sy_up U 0 14 (-1)) 0 15 0) (hc : m_Model_begin (sy_up T 392 6 (-1)) = some (r, S1)) (h2 : S2 = sy_up (sy_up (sy_up (sy_up S1 399 0 3) 399 1 5) 399 2 7) 400 3 9) : zi_Inv S2 0 := by
  obtain ⟨⟨u17, u18, u19, u8⟩, uz, u0, u35, u45⟩ := hU
  have t0 : ∀ j, T 0 j = if j = 15 then 0 else if j = 14 then -1 else 0 := fun j => by rw [hT, zz_upo, zz_upo, u0 0 (by omega)]
  have tz : ∀ i, i ≠ 0 → T i = U i := fun i a => by rw [hT, zz_up1 a, zz_up1 a]
  have m392 : ∀ j, sy_up T 392 6 (-1) 392 j = if j = 6 then -1 else 0 := fun j => by rw [zz_upo, tz 392 (by omega), uz 392 (by omega)]
  obtain ⟨r', S1', hc', b1, b2, b3, b4, b5, b6, b7⟩ := zq_begin (S := sy_up T 392 6 (-1)) (pn := 0) (by rw [m392]; rfl) (by omega)
  rw [hc] at hc'
  cases hc'
  have s392 : ∀ j, S2 392 j = S1 392 j := fun j => by rw [h2, zz_up1 (by omega), zz_up1 (by omega), zz_up1 (by omega), zz_up1 (by omega)]
  have so : ∀ i, i ≠ 399 → i ≠ 400 → S2 i = S1 i := fun i a b => by rw [h2, zz_up1 b, zz_up1 a, zz_up1 a, zz_up1 a]
  have s400 : ∀ j, S2 400 j = if j = 3 then 9 else S1 400 j := fun j => by rw [h2, zz_upo, zz_up1 (by omega), zz_up1 (by omega), zz_up1 (by omega)]
  have s399 : ∀ j, S2 399 j = if j = 2 then 7 else if j = 1 then 5 else if j = 0 then 3 else S1 399 j := fun j => by rw [h2, zz_up1 (by omega), zz_upo, zz_upo, zz_upo]
  have sU : ∀ i, i ≠ 0 → i ≠ 392 → i ≠ 399 → i ≠ 400 → i ≠ 403 → S2 i = U i := fun i a b c d x => by rw [so i c d, b1 i b d x, zz_up1 b, tz i a]
  have sT0 : S2 0 = T 0 := by rw [so 0 (by omega) (by omega), b1 0 (by omega) (by omega) (by omega), zz_up1 (by omega)]
  have k6 : sy_up T 392 6 (-1) 400 6 = 0 := by rw [zz_up1 (by omega), tz 400 (by omega), uz 400 (by omega)]
  have v400 : zv_M S2 400 0 = zx_v0 9 (if (0 : Nat) = 0 then -1 else 0) := by
    funext j
    unfold zv_M zx_v0
    rw [Nat.zero_add]
    by_cases q6 : j = 6
    · subst q6; rfl
    · rw [if_neg q6]
      by_cases q31 : j < 31
      · rw [if_pos q31, s400]
        by_cases q3 : j = 3
        · rw [if_pos q3, if_pos q3]
        · rw [if_neg q3, if_neg q3, b7 j q31, if_neg q6]
      · rw [if_neg q31, if_neg (by omega), if_neg (by omega), if_neg (by omega)]
  refine ⟨zx_e (fun _ => 0) (fun _ => 0) (zx_gf 3 5 7), 0, 0, ⟨⟨by omega, by omega, fun i hi => absurd hi (Nat.not_lt_zero _), fun p hp => absurd hp (Nat.not_lt_zero _)⟩, ⟨?_, ?_, fun i hi => absurd hi (Nat.not_lt_zero _), fun i hi => absurd hi (by omega), fun i hi => ?_⟩, ⟨?_, ?_, fun i hi => absurd hi (Nat.not_lt_zero _), fun i hi => absurd hi (Nat.not_lt_zero _), fun i hi => ?_⟩⟩, ⟨?_, ?_⟩, ⟨?_, ?_⟩, ⟨0, 0, by omega, by omega, ?_, ?_, ?_, fun i hi => absurd hi (Nat.not_lt_zero _)⟩, fun i hi => ⟨?_, Or.inl ?_, fun q => ?_⟩, ⟨0, by omega, ?_, ?_, fun i hi => absurd hi (Nat.not_lt_zero _)⟩, ?_, ⟨0, by omega, ?_, ?_, fun i hi => absurd hi (Nat.not_lt_zero _)⟩, ⟨0, by omega, ?_, ?_, fun i hi => absurd hi (Nat.not_lt_zero _)⟩⟩
  · rw [s392, b2 17 (by omega) (by omega) (by omega), m392]; rfl
  · rw [s392, b2 19 (by omega) (by omega) (by omega), m392]; rfl
  · rw [s399]
    have : i = 0 ∨ i = 1 ∨ i = 2 := by omega
    rcases this with rfl | rfl | rfl <;> rfl
  · rw [sU 1 (by omega) (by omega) (by omega) (by omega) (by omega), u17]; rfl
  · rw [sU 1 (by omega) (by omega) (by omega) (by omega) (by omega), u18]; rfl
  · rw [sU 8 (by omega) (by omega) (by omega) (by omega) (by omega)]; exact u8 i hi
  · rw [v400, if_pos rfl, ← u45 (by omega)]
    exact zv_Kc (fun i j a b => by rw [sU i (by omega) (by omega) (by omega) (by omega) (by omega)])
  · rw [v400]; exact zx_v0_W
  · rw [sT0, t0, if_pos rfl, s400, if_neg (by omega), b7 6 (by omega), if_pos rfl, k6]
  · rw [s400, if_neg (by omega), b7 6 (by omega), if_pos rfl, k6]; decide
  · rw [sU 55 (by omega) (by omega) (by omega) (by omega) (by omega), u0 55 (by omega)]; rfl
  · rw [sU 55 (by omega) (by omega) (by omega) (by omega) (by omega), u0 55 (by omega)]; rfl
  · rw [s392, b3]; rfl
  · rw [sU 368 (by omega) (by omega) (by omega) (by omega) (by omega), u0 368 (by omega), so 403 (by omega) (by omega), b6 i hi]
  · rw [sU 368 (by omega) (by omega) (by omega) (by omega) (by omega), u0 368 (by omega)]
  · rw [sU 368 (by omega) (by omega) (by omega) (by omega) (by omega), u0 368 (by omega)] at q
    exact absurd q (show ¬ (0 : Int32) = 1 by decide)
  · rw [sU 35 (by omega) (by omega) (by omega) (by omega) (by omega), u35]; rfl
  · rw [s392, b2 0 (by omega) (by omega) (by omega), m392]; rfl
  · unfold zi_fault
    rw [sT0, t0, s392, b2 6 (by omega) (by omega) (by omega), m392]; rfl
  · rw [sU 374 (by omega) (by omega) (by omega) (by omega) (by omega), u0 374 (by omega)]; rfl
  · rw [s392, b4]; rfl
  · rw [sU 384 (by omega) (by omega) (by omega) (by omega) (by omega), u0 384 (by omega)]; rfl
  · rw [s392, b5]; rfl
