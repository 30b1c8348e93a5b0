/-! ===== SHIFTS, SINKS ===== -/
theorem zp_find_h {S : sy_St} {e : Nat → Nat → Int32} {wc M n c0 : Nat} {v : Nat → Int32} {lim : Int32} (he : ze_C S e wc M) (hw : ze_W e wc M) (h0 : 0 < M) (hn : n ≤ 5) (hv : zv_W v M c0) (hc0 : c0 < 1000000) (hk : zv_K S 45 = v) :
    zz_wp (m_Shift_find 45 (nI n) lim S) (fun _ S1 => (∀ i, i ≠ 370 → i ≠ 371 → i ≠ 372 → i ≠ 373 → (i < 10 ∨ 34 < i) → S1 i = S i) ∧ S1 370 4 = nI n ∧ zu_A S1 (fun c => zu_U e wc M v n lim c n) (fun x => zs_most (zs_dig M n x) n M) M n (M ^ n) ∧ ∃ x, S1 370 7 = nI x ∧ zu_D (zu_U e wc M v n lim) n (M ^ n) 0 x) := by
  have hmin : sy_min 5 (nI n) = nI n := by
    unfold sy_min
    by_cases h : n < 5
    · rw [if_pos (by rw [show (5 : Int32) = nI 5 from rfl]; exact nI_lt h (by omega))]
    · rw [if_neg (by rw [show (5 : Int32) = nI 5 from rfl]; exact nI_nlt (by omega) (by omega)), show n = 5 by omega]; rfl
  unfold m_Shift_find m_Rows_tryRows_h
  simp only [zz_b, zz_c]
  rw [hmin]
  obtain ⟨T0, hT0⟩ : ∃ T0, T0 = sy_up (sy_up (sy_up (sy_up S 370 8 lim) 370 6 6) 370 7 0) 370 4 (nI n) := ⟨_, rfl⟩
  rw [← hT0]
  have t1 : ∀ i, i ≠ 370 → T0 i = S i := fun i a => by rw [hT0, zz_up1 a, zz_up1 a, zz_up1 a, zz_up1 a]
  have t2 : ∀ j, T0 370 j = if j = 4 then nI n else if j = 7 then 0 else if j = 6 then 6 else if j = 8 then lim else S 370 j := fun j => by rw [hT0, zz_upo, zz_upo, zz_upo, zz_upo]
  refine zz_loopX (ap := fun (k : zt_1) (u : Nat × sy_St) => k (nI u.1) u.2) (fun u => 6 - u.1) (fun u => u.1 ≤ 6 ∧ (∀ i, i ≠ 372 → u.2 i = T0 i) ∧ ∀ q, q < u.1 → u.2 372 q = 0) ?_ sy_F (0, T0) (zz_F (by simp only; omega)) ⟨by simp only; omega, fun _ _ => rfl, fun q hq => absurd hq (Nat.not_lt_zero _)⟩
  rintro k ⟨q, T⟩ ⟨hq, hf, hz⟩ hkk
  simp only at hq hf hz hkk ⊢
  unfold m_Rows_tryRows_h_B11
  rw [zz_i]
  refine ⟨fun hle => ?_, fun hnle => ?_⟩
  · have hq6 : q = 6 := by
      rcases Nat.lt_or_ge q 6 with x | x
      · exact absurd hle (by rw [show (6 : Int32) = nI 6 from rfl]; exact nI_ge x (by omega))
      · omega
    subst hq6
    rw [zz_c]
    have h45 : zv_K T 45 = v := by rw [← hk]; exact zv_Kc (fun i j a b => by rw [hf i (by omega), t1 i (by omega)])
    refine zz_mono (zp_copyFrom (k := 10) (a := 45) (by omega)) (fun _ U ⟨f1, k1⟩ => ?_)
    rw [zz_c]
    have hU : ∀ i, i ≠ 370 → i ≠ 372 → (i < 10 ∨ 34 < i) → U i = S i := fun i a b c => by rw [f1 i (by omega), hf i b, t1 i a]
    have hU4 : U 370 = T0 370 := by rw [f1 370 (by omega), hf 370 (by omega)]
    have hL : zu_L U e wc M n v lim 0 0 := by
      refine ⟨zr_eC (fun i a b => hU i (by omega) (by omega) (by omega)) he, by rw [hU4, t2, if_pos rfl], by rw [hU4, t2]; rfl, fun i hi => absurd hi (Nat.not_lt_zero _), fun q hq => ?_, fun _ => by rw [show 10 + 5 * 0 = 10 from rfl, k1, h45]; rfl⟩
      rw [f1 372 (by omega), hz q hq]; rfl
    have hA : zu_A U (fun c => zu_U e wc M v n lim c n) (fun x => zs_most (zs_dig M n x) n M) M n (0 * M ^ n) := by
      rw [Nat.zero_mul]
      exact Or.inl ⟨by rw [hU4, t2]; rfl, fun x hx => absurd hx (Nat.not_lt_zero _)⟩
    have hD : ∃ x, U 370 7 = nI x ∧ zu_D (zu_U e wc M v n lim) n (0 * M ^ n) 0 x := by
      rw [Nat.zero_mul]
      exact ⟨0, by rw [hU4, t2]; rfl, Nat.zero_le _, Nat.le_refl _, Or.inl (Nat.le_refl _), fun y g hy => absurd hy (Nat.not_lt_zero _)⟩
    refine zz_mono (zp_goOn_h hw h0 hn hv hc0 n 0 8 0 U (by omega) (by omega) (by simp) hL (fun i hi => absurd hi (Nat.not_lt_zero _)) hA hD) (fun _ S1 ⟨g, gA, gD⟩ => ?_)
    rw [zz_some, zz_some]
    rw [Nat.zero_add, Nat.one_mul] at gA gD
    refine ⟨fun i a b c d x => ?_, ?_, gA, gD⟩
    · rw [g.1 i a b d (by omega), hU i a c x]
    · rw [g.2.1 4 (by omega) (by omega), hU4, t2, if_pos rfl]
  · have hq2 : q < 6 := nI_lt_of (n := 6) hnle (by omega) (by omega)
    rw [zz_g, zz_b, zz_b, nI_1]
    refine ⟨zz_in (by omega) (by omega), ?_⟩
    simp only [zz_cl (show q < 2147483648 by omega)]
    refine hkk (q + 1, sy_up T 372 q 0) ⟨by simp only; omega, fun i hi => by simp only; rw [zz_up1 hi, hf i hi], fun x hx => ?_⟩ (by simp only; omega)
    simp only at hx ⊢
    rw [zz_upo]
    by_cases y : x = q
    · rw [if_pos y]
    · rw [if_neg y]; exact hz x (by omega)
theorem zp_isNoTrial {S : sy_St} {n m : Int32} : m_Top_isNoTrial n m S = some (if (1 ≤ n ∧ n ≤ 5) ∧ 0 ≤ m ∧ m ≤ 99 then 0 else 1, S) := by
  unfold m_Top_isNoTrial
  by_cases a : n < 1
  · rw [if_pos a, if_neg (fun q => by have := q.1.1; grind)]
  · by_cases b : 5 < n
    · rw [if_neg a, if_pos b, if_neg (fun q => by have := q.1.2; grind)]
    · by_cases c : m < 0
      · rw [if_neg a, if_neg b, if_pos c, if_neg (fun q => by have := q.2.1; grind)]
      · by_cases d : m ≤ 99
        · rw [if_neg a, if_neg b, if_neg c, if_pos d, if_pos ⟨⟨by grind, by grind⟩, by grind, d⟩]
        · rw [if_neg a, if_neg b, if_neg c, if_neg d, if_neg (fun q => d q.2.2)]
theorem zq_goesCode {S : sy_St} {e : Nat → Nat → Int32} {wc M n c x : Nat} {lim : Int32} {v : Nat → Int32} (hm : ze_M S e wc M) (hw : ze_W e wc M) (h0 : 0 < M) (hv : zv_M S 400 0 = v) (hW : zv_W v M c) (hc : c < 1000000) (hn : n ≤ 5) (hd : ∀ i, i < n → S 407 i = nI (zs_dig M n x i)) : zz_wp (m_Model_goesFor (nI n) lim S) (fun r S1 => zf_o S S1 401 401 ∧ ∃ g, r = nI g ∧ g ≤ n ∧ zu_U e wc M v n lim x g ∧ ∀ y, y ≤ n → zu_U e wc M v n lim x y → y ≤ g) := by
  refine zz_mono (zq_goesFor (dg := zs_dig M n x) hm hw (by rw [hv]; exact hW) hc hn (fun i hi => ⟨zs_dig_lt h0, hd i hi⟩)) (fun r S1 ⟨f, g, g1, g2, g3, g4⟩ => ⟨f, g, g1, g2, ?_, fun y hy hU => ?_⟩)
  · rw [hv] at g3; exact g3
  · rcases Nat.lt_or_ge g y with z | z
    · rw [hv] at g4
      exact absurd (hU g z) (g4 (by omega))
    · exact z
