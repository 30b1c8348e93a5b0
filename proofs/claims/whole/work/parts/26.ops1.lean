theorem zo_two {f g : sy_St → sy_R} {S S1 S2 : sy_St} {r : Int32} {c : Nat} (h1 : f S = some (r, S1)) (h2 : g S1 = some (r, S2)) (h : zi_Inv S2 c) : zz_wp (f S) (fun r S1 => zz_wp (g S1) (fun r2 S2 => r2 = r ∧ zi_Inv S2 c)) := zz_of_eq h1 (zz_of_eq h2 ⟨rfl, h⟩)
theorem zx_i {c : Prop} [Decidable c] {a b : sy_R} {S : sy_St} (h1 : ∃ r, a = some (r, S)) (h2 : ∃ r, b = some (r, S)) : ∃ r, (if c then a else b) = some (r, S) := by
  by_cases h : c
  · rw [if_pos h]; exact h1
  · rw [if_neg h]; exact h2
theorem zo_eq {f g : sy_St → sy_R} {S : sy_St} {c : Nat} (h1 : f S = g S) (h2 : ∃ r, f S = some (r, S)) (h : zi_Inv S c) : zz_wp (f S) (fun r S1 => zz_wp (g S1) (fun r2 S2 => r2 = r ∧ zi_Inv S2 c)) := by
  obtain ⟨r, h2⟩ := h2
  exact zo_two h2 (h1 ▸ h2) h
theorem zq_in_t {v a b : Int32} {S : sy_St} (h1 : a ≤ v) (h2 : v ≤ b) : m_Model_in v a b S = some (1, S) := by
  unfold m_Model_in
  rw [if_neg (by grind), if_neg (by grind)]
theorem zq_in_f {v a b : Int32} {S : sy_St} (h : ¬ (a ≤ v ∧ v ≤ b)) : m_Model_in v a b S = some (0, S) := by
  unfold m_Model_in
  by_cases q : v < a
  · rw [if_pos q]
  · rw [if_neg q, if_pos (by grind)]
theorem zo_feed (p : Int32) : zo_ok (m_Top_feed p) (m_Model_feed p) := by
  intro S e wc M c hc g
  have gs := zo_same g
  obtain ⟨g1, g2, g3, g4, g5, ⟨n, hn, h2, h0, hl⟩, g7, g8, g9⟩ := zi_all_m (show c ≤ c + 100 by omega) g
  by_cases hp : 0 ≤ p ∧ p ≤ 255
  · by_cases hn2 : n < 250
    · have e1 : m_Top_feed p S = some (nI (n + 1), sy_up (sy_up S 36 n p) 35 2 (nI (n + 1))) := by
        unfold m_Top_feed m_Reader_add
        rw [if_neg (by grind), if_pos hp.2, h2, show (250 : Int32) = nI 250 from rfl, if_pos (nI_lt hn2 (by omega)), if_neg (nI_ge hn2 (by omega))]
        simp only [sy_g, sy_c, sy_b]
        rw [if_pos (zz_in hn2 (by omega)), zz_cl (by omega), zz_up1 (show (35 : Nat) ≠ 36 by decide), h2, nI_1, zz_upo, if_pos rfl]
      have e2 : m_Model_feed p (sy_up (sy_up S 36 n p) 35 2 (nI (n + 1))) = some (nI (n + 1), sy_up (sy_up (sy_up (sy_up S 36 n p) 35 2 (nI (n + 1))) 393 n p) 392 0 (nI (n + 1))) := by
        unfold m_Model_feed
        rw [zq_in_t hp.1 hp.2]
        simp only [sy_g, sy_c, sy_b]
        have q : sy_up (sy_up S 36 n p) 35 2 (nI (n + 1)) 392 0 = nI n := by rw [zz_up1 (by decide), zz_up1 (by decide), h0]
        simp only [q]
        rw [if_neg (by decide), if_neg (fun q2 => by have := (nI_eq (show n < 2 ^ 31 by omega) (show 250 < 2 ^ 31 by omega)).mp q2; omega), if_pos (zz_in hn2 (by omega)), zz_cl (by omega), zz_up1 (show (392 : Nat) ≠ 393 by decide), q, nI_1, zz_upo, if_pos rfl]
      refine zo_two e1 e2 ⟨e, wc, M, ?_⟩
      have ch : ∀ D : Nat → Nat → Prop, ¬ D 36 n → ¬ D 35 2 → ¬ D 393 n → ¬ D 392 0 → zc_eq D S (sy_up (sy_up (sy_up (sy_up S 36 n p) 35 2 (nI (n + 1))) 393 n p) 392 0 (nI (n + 1))) := fun D a b c d => zc_trans (zc_trans (zc_trans (zc_up a) (zc_up b)) (zc_up c)) (zc_up d)
      refine ⟨zi_edge_f (ch _ ?_ ?_ ?_ ?_) g1, zi_now_f (ch _ ?_ ?_ ?_ ?_) g2, zi_seed_f (ch _ ?_ ?_ ?_ ?_) g3, zi_past_f (ch _ ?_ ?_ ?_ ?_) g4, zi_img_f (ch _ ?_ ?_ ?_ ?_) g5, ⟨n + 1, by omega, ?_, ?_, fun i hi => ?_⟩, zi_fault_f (ch _ ?_ ?_ ?_ ?_) g7, zi_seen_f (ch _ ?_ ?_ ?_ ?_) g8, zi_book_f (ch _ ?_ ?_ ?_ ?_) g9⟩
      all_goals first | (unfold zd_edge; omega) | (unfold zd_now; omega) | (unfold zd_seed; omega) | (unfold zd_past; omega) | (unfold zd_img; omega) | (unfold zd_fault; omega) | (unfold zd_seen; omega) | (unfold zd_book; omega) | skip
      · simp only [zz_up]; rfl
      · simp only [zz_up]; rfl
      · simp only [zz_up]
        by_cases q : i = n
        · subst q; simp [hp.1]
        · have := hl i (by omega)
          simp [q, this.1, this.2]
    · have : n = 250 := by omega
      subst this
      refine zo_two (r := -1000000004) (S1 := S) (S2 := S) ?_ ?_ gs
      · unfold m_Top_feed
        rw [if_neg (by grind), if_pos hp.2, h2, if_neg (by decide)]
      · unfold m_Model_feed
        rw [zq_in_t hp.1 hp.2]
        simp only [sy_c, h0]
        rw [if_neg (by decide), if_pos (show nI 250 = 250 from rfl)]
  · refine zo_two (r := -1000000002) (S1 := S) (S2 := S) ?_ ?_ gs
    · unfold m_Top_feed
      grind
    · unfold m_Model_feed
      rw [zq_in_f hp]
      rfl
theorem zo_fault : zo_ok m_Top_fault m_Model_fault := by
  intro S e wc M c hc g
  refine zo_two (r := S 0 14) (S1 := S) (S2 := S) rfl ?_ (zo_same g)
  unfold m_Model_fault
  rw [g.2.2.2.2.2.2.1]
theorem zo_word (p : Int32) : zo_ok (m_Top_word p) (m_Model_word p) := by
  intro S e wc M c hc g
  rcases pk_ix p (n := 3) (by omega) with h | h | ⟨j, hj, rfl⟩
  · refine zo_two (r := -1000000002) (S1 := S) (S2 := S) ?_ ?_ (zo_same g)
    · unfold m_Top_word m_Top_isWord; rw [if_pos h]; rfl
    · unfold m_Model_word; rw [zq_in_f (by grind)]; rfl
  · have h3 : (3 : Int32) ≤ p := h
    refine zo_two (r := -1000000002) (S1 := S) (S2 := S) ?_ ?_ (zo_same g)
    · unfold m_Top_word m_Top_isWord; rw [if_neg (by grind), if_pos h3]; rfl
    · unfold m_Model_word; rw [zq_in_f (by grind)]; rfl
  · have hb : 0 ≤ nI j ∧ nI j ≤ 2 := ⟨nI_pos' (by omega), by rw [show (2 : Int32) = nI 2 from rfl]; exact nI_le (by omega) (by omega)⟩
    refine zo_two (r := S 8 j) (S1 := S) (S2 := S) ?_ ?_ (zo_same g)
    · unfold m_Top_word m_Top_isWord
      rw [if_neg (by grind), if_neg (by grind)]
      simp only [sy_c, sy_g]
      rw [if_neg (by decide), if_pos (zz_in hj (by omega)), zz_cl (by omega)]
    · unfold m_Model_word
      rw [zq_in_t hb.1 hb.2]
      simp only [sy_c, sy_g]
      rw [if_neg (by decide), if_pos (zz_in hj (by omega)), zz_cl (by omega), g.1.2.1.2.2.2.2 j hj, g.1.2.2.2.2.2.2 j hj]
theorem zo_told (p : Int32) : zo_ok (m_Top_told p) (m_Model_told p) := by
  intro S e wc M c hc g
  have gs := zo_same g
  obtain ⟨⟨hw, hm, hcl⟩, ⟨hv, hW⟩, -, ⟨n, nx, -, -, hp1, -, hp2, -⟩, -, ⟨n2, -, ht1, ht2, -⟩, -, ⟨n3, -, hs1, hs2, -⟩, ⟨n4, -, hb1, hb2, -⟩⟩ := g
  have v : ∀ j, zv_K S 45 j = zv_M S 400 0 j := fun j => by rw [hv]
  have hW' : zv_W (zv_K S 45) M c := by rw [hv]; exact hW
  obtain ⟨⟨t, ht, hv0⟩, hlow, -, h5, -, -⟩ := hW
  have e9 := zp_weightAt hcl hw (zv_K S 45) (t := t) (by omega) (by rw [hv]; exact hv0)
  have m9 := zq_weightOf (a := 400) hm hw ⟨t, ht, hv0⟩ (by omega)
  have e10 := zp_forceHeld hcl hw hW'
  have m10 := zq_forceOfAll (a := 400) hm hw (by rw [← hv]; exact zv_hold hW') (by rw [← hv]; exact hW'.2.2.2.1)
  rw [hv] at e9 e10
  have k5 : S 45 5 = zv_M S 400 0 0 := by rw [← hv]; rfl
  have E : m_Top_told p S = m_Model_told p S := by
    unfold m_Top_told m_Model_told
    rw [k5, e9, e10, m9, m10, hcl.1, hm.1, hcl.2.1, hm.2.1, ht1, ht2, hs1, hs2, hb1, hb2, hp1, hp2]
    rw [show S 45 6 = zv_M S 400 0 1 by rw [← hv]; rfl, show S 45 7 = zv_M S 400 0 2 by rw [← hv]; rfl, show S 45 8 = zv_M S 400 0 3 by rw [← hv]; rfl, show S 45 9 = zv_M S 400 0 4 by rw [← hv]; rfl, show S 45 10 = zv_M S 400 0 5 by rw [← hv]; rfl]
    rfl
  refine zo_eq E ?_ gs
  unfold m_Top_told
  rw [k5, e9, e10]
  simp only [sy_c]
  repeat' (first | exact ⟨_, rfl⟩ | apply zx_i)

theorem zo_person_ (p w : Int32) : zo_ok (m_Top_person p w) (m_Model_person p w) := by
  intro S e wc M c hc g
  have gs := zo_same g
  obtain ⟨⟨hw, hm, hcl⟩, ⟨hv, hW⟩, -⟩ := g
  rcases zo_person p hw.2.1 with ⟨j, hj, rfl⟩ | h
  · have h6 : j < 6 := by have := hw.2.1; omega
    have hM := hw.2.1
    obtain ⟨k0, k1, k2, k3, k4⟩ := hcl.2.2.2.1 j hj
    have i1 : sy_in (nI j) 6 = True := eq_true (zz_in h6 (by omega))
    have c1 : (nI j).toNatClampNeg = j := zz_cl (by omega)
    have r : ∀ i, i < 30 → sy_in (nI i) 30 = True := fun i hi => eq_true (zz_in hi (by omega))
    have r2 : ∀ i, i < 31 → sy_in (nI i) 31 = True := fun i hi => eq_true (zz_in hi (by omega))
    have cl : ∀ i, i < 31 → (nI i).toNatClampNeg = i := fun i hi => zz_cl (by omega)
    have m : ∀ i, i < 5 → S 398 (5 * j + i) = e 2 (5 * j + i) := fun i hi => hm.2.2.2.1 _ (by omega)
    have t7 : S 46 j = S 400 (7 + j) := by rw [← zvK_t (S := S) (k := 45) h6, hv, zvM_at (by omega) (by omega), Nat.zero_add]
    have t13 : S 47 j = S 400 (13 + j) := by rw [← zvK_h (S := S) (k := 45) h6, hv, zvM_at (by omega) (by omega), Nat.zero_add]
    have t19 : S 48 j = S 400 (19 + j) := by rw [← zvK_u (S := S) (k := 45) h6, hv, zvM_at (by omega) (by omega), Nat.zero_add]
    have t25 : S 49 j = S 400 (25 + j) := by rw [← zvK_f (S := S) (k := 45) h6, hv, zvM_at (by omega) (by omega), Nat.zero_add]
    have f1 := zp_forceOf (k := 45) hcl hw hj
    have f2 := zq_forceOf (a := 400) hm hw hj
    rw [hv] at f1
    have E : m_Top_person (nI j) w S = m_Model_person (nI j) w S := by
      unfold m_Top_person m_Model_person
      rw [zp_isPerson hcl.2.1 hw.2.1 hj, zq_isOne_t hm.2.1 hw.2.1 hj]
      have b0 : (5 * nI j + 0 : Int32) = nI (5 * j + 0) := by rw [show (5 : Int32) = nI 5 from rfl, pk_mul, show (0 : Int32) = nI 0 from rfl, nI_add]
      have b1 : (5 * nI j + 1 : Int32) = nI (5 * j + 1) := by rw [show (5 : Int32) = nI 5 from rfl, pk_mul, show (1 : Int32) = nI 1 from rfl, nI_add]
      have b2 : (5 * nI j + 2 : Int32) = nI (5 * j + 2) := by rw [show (5 : Int32) = nI 5 from rfl, pk_mul, show (2 : Int32) = nI 2 from rfl, nI_add]
      have b3 : (5 * nI j + 3 : Int32) = nI (5 * j + 3) := by rw [show (5 : Int32) = nI 5 from rfl, pk_mul, show (3 : Int32) = nI 3 from rfl, nI_add]
      have b4 : (5 * nI j + 4 : Int32) = nI (5 * j + 4) := by rw [show (5 : Int32) = nI 5 from rfl, pk_mul, show (4 : Int32) = nI 4 from rfl, nI_add]
      have d7 : (7 + nI j : Int32) = nI (7 + j) := by rw [show (7 : Int32) = nI 7 from rfl, nI_add]
      have d13 : (13 + nI j : Int32) = nI (13 + j) := by rw [show (13 : Int32) = nI 13 from rfl, nI_add]
      have d19 : (19 + nI j : Int32) = nI (19 + j) := by rw [show (19 : Int32) = nI 19 from rfl, nI_add]
      have d25 : (25 + nI j : Int32) = nI (25 + j) := by rw [show (25 : Int32) = nI 25 from rfl, nI_add]
      simp only [sy_c, sy_g, sy_b, i1, if_true, c1, k0, k1, k2, k3, k4, t7, t13, t19, t25, f1, f2, d7, d13, d19, d25, r2 (7 + j) (by omega), r2 (13 + j) (by omega), r2 (19 + j) (by omega), r2 (25 + j) (by omega), cl (7 + j) (by omega), cl (13 + j) (by omega), cl (19 + j) (by omega), cl (25 + j) (by omega)]
      by_cases q0 : w = 0
      · subst q0; simp only [if_true, b0, r (5 * j + 0) (by omega), cl (5 * j + 0) (by omega), m 0 (by omega)]; rfl
      by_cases q1 : w = 1
      · subst q1; simp only [if_true, b1, r (5 * j + 1) (by omega), cl (5 * j + 1) (by omega), m 1 (by omega)]; rfl
      by_cases q2 : w = 2
      · subst q2; simp only [if_true, b2, r (5 * j + 2) (by omega), cl (5 * j + 2) (by omega), m 2 (by omega)]; rfl
      by_cases q3 : w = 3
      · subst q3; simp only [if_true, b3, r (5 * j + 3) (by omega), cl (5 * j + 3) (by omega), m 3 (by omega)]; rfl
      by_cases q4 : w = 4
      · subst q4; simp only [if_true, b4, r (5 * j + 4) (by omega), cl (5 * j + 4) (by omega), m 4 (by omega)]; rfl
      simp only [q0, q1, q2, q3, q4, if_false]
    refine zo_eq E ?_ gs
    unfold m_Top_person
    rw [zp_isPerson hcl.2.1 hw.2.1 hj]
    simp only [sy_c, sy_g, i1, if_true, f1]
    rw [if_neg (by decide)]
    repeat' (first | exact ⟨_, rfl⟩ | apply zx_i)
  · refine zo_two (r := -1000000001) (S1 := S) (S2 := S) ?_ ?_ gs
    · unfold m_Top_person; rw [zp_isPerson_f hcl.2.1 h]; rfl
    · unfold m_Model_person; rw [zq_isOne_f hm.2.1 hw.2.1 h]; rfl
