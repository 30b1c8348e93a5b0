theorem zvM_k {S : sy_St} {k j a o : Nat} {x : Int32} (h : a ≠ k) : zv_M (sy_up S k j x) a o = zv_M S a o := by
  unfold zv_M; rw [zz_up1 h]
theorem zvK_a {S : sy_St} {k j a : Nat} {x : Int32} (h : a < k ∨ k + 4 < a) : zv_K (sy_up S a j x) k = zv_K S k := by
  unfold zv_K; rw [zz_up1 (by omega), zz_up1 (by omega), zz_up1 (by omega), zz_up1 (by omega), zz_up1 (by omega)]
theorem zi_step {S S2 : sy_St} {e : Nat → Nat → Int32} {wc M c c2 : Nat} (g : zi_all S e wc M c) (hc : c ≤ c2) (h : ∀ i, i ≠ 400 → (i < 45 ∨ 49 < i) → S2 i = S i) (hv : zv_K S2 45 = zv_M S2 400 0) (hW : zv_W (zv_M S2 400 0) M c2) (h6 : S2 400 6 = S 400 6) : zi_all S2 e wc M c2 := by
  obtain ⟨g1, g2, g3, g4, g5, g6, g7, g8, g9⟩ := zi_all_m hc g
  have q : ∀ D : Nat → Nat → Prop, (∀ i j, D i j → i ≠ 400 ∧ (i < 45 ∨ 49 < i)) → zc_eq D S S2 := fun D hd i j d => by rw [h i (hd i j d).1 (hd i j d).2]
  refine ⟨zi_edge_f (q _ ?_) g1, ⟨hv, hW⟩, ?_, zi_past_f (q _ ?_) g4, zi_img_f (q _ ?_) g5, zi_text_f (q _ ?_) g6, zi_fault_f (q _ ?_) g7, zi_seen_f (q _ ?_) g8, zi_book_f (q _ ?_) g9⟩
  · intro i j d; unfold zd_edge at d; omega
  · unfold zi_seed at g3 ⊢; rw [h6, h 0 (by omega) (by omega)]; exact g3
  · intro i j d; unfold zd_past at d; omega
  · intro i j d; unfold zd_img at d; omega
  · intro i j d; unfold zd_text at d; omega
  · intro i j d; unfold zd_fault at d; omega
  · intro i j d; unfold zd_seen at d; omega
  · intro i j d; unfold zd_book at d; omega
theorem zo_fruit (n : Int32) : zo_ok (m_Top_fruit n) (m_Model_fruit n) := by
  intro S e wc M c hc g
  have gs := zo_same g
  have gg := g
  obtain ⟨-, ⟨hv, hW⟩, -⟩ := g
  have k3 : S 45 8 = S 400 3 := by rw [show S 45 8 = zv_K S 45 3 from rfl, hv]; rfl
  by_cases hn : 0 ≤ n ∧ n ≤ 99
  · have fin : ∀ x : Int32, x = sy_min 999 (S 400 3 + n) → zi_Inv (sy_up (sy_up S 45 8 x) 400 3 x) (c + 100) := fun x hx => by
      refine ⟨e, wc, M, zi_step gg (by omega) (fun i hi1 hi2 => ?_) ?_ ?_ ?_⟩
      · rw [zz_up1 hi1, zz_up1 (by omega)]
      · rw [zvM_up0 (by omega) (by omega), zvM_k (by omega), zvK_a (by omega), show (8 : Nat) = 5 + 3 from rfl, zvK_up_s (by omega), hv]
      · rw [zvM_up0 (by omega) (by omega), zvM_k (by omega)]
        obtain ⟨a1, a2, a3, a4, a5, a6⟩ := zv_W_m hW (show c ≤ c + 100 by omega)
        refine ⟨a1, a2, a3, a4, fun p hp => ?_, fun p hp => ?_⟩
        · simp only [upd]; rw [if_neg (by omega)]; exact a5 p hp
        · simp only [upd]; rw [if_neg (by omega)]; exact a6 p hp
      · rw [zz_upo, if_neg (by omega), zz_up1 (by omega)]
    have e1 : m_Top_fruit n S = some (sy_min 999 (S 400 3 + n), sy_up S 45 8 (sy_min 999 (S 400 3 + n))) := by
      unfold m_Top_fruit
      rw [if_neg (by grind), if_pos hn.2]
      simp only [sy_b, zz_upo, if_true, k3]
    have c3 : (3 : Int32).toNatClampNeg = 3 := rfl
    have q3 : ∀ x : Int32, sy_up S 45 8 x 400 3 = S 400 3 := fun x => by rw [zz_up1 (by omega)]
    by_cases hm : S 400 3 + n ≤ 999
    · refine zo_two (r := sy_min 999 (S 400 3 + n)) e1 (S2 := sy_up (sy_up S 45 8 (sy_min 999 (S 400 3 + n))) 400 3 (sy_min 999 (S 400 3 + n))) ?_ (fin _ rfl)
      unfold m_Model_fruit
      rw [zq_in_t hn.1 hn.2]
      simp only [sy_c, sy_b, c3, q3, zz_upo, if_true, hm]
      rw [if_neg (by decide), ← zz_min_t hm]
    · refine zo_two (r := sy_min 999 (S 400 3 + n)) e1 (S2 := sy_up (sy_up S 45 8 (sy_min 999 (S 400 3 + n))) 400 3 (sy_min 999 (S 400 3 + n))) ?_ (fin _ rfl)
      unfold m_Model_fruit
      rw [zq_in_t hn.1 hn.2]
      simp only [sy_c, sy_b, c3, q3, zz_upo, if_true, hm, if_false]
      rw [if_neg (by decide), ← zz_min_f hm]
  · refine zo_two (r := -1000000002) (S1 := S) (S2 := S) ?_ ?_ gs
    · unfold m_Top_fruit; grind
    · unfold m_Model_fruit; rw [zq_in_f hn]; rfl
theorem zo_see (p : Int32) : zo_ok (m_Top_see p) (m_Model_see p) := by
  intro S e wc M c hc g
  have gs := zo_same g
  obtain ⟨g1, g2, g3, g4, g5, g6, g7, ⟨n, hn, h2, h0, hl⟩, g9⟩ := zi_all_m (show c ≤ c + 100 by omega) g
  by_cases hp : 0 ≤ p ∧ p ≤ 99
  · by_cases hn2 : n < 5
    · have e1 : m_Top_see p S = some (nI (n + 1), sy_up (sy_up S 377 n p) 374 7 (nI (n + 1))) := by
        unfold m_Top_see m_Seen_add
        rw [if_neg (by grind), if_pos hp.2, h2, show (5 : Int32) = nI 5 from rfl, if_pos (nI_lt hn2 (by omega)), if_neg (nI_ge hn2 (by omega))]
        simp only [sy_g, sy_c, sy_b]
        rw [if_pos (zz_in hn2 (by omega)), zz_cl (by omega), zz_up1 (show (374 : Nat) ≠ 377 by decide), h2, nI_1, zz_upo, if_pos rfl]
      have e2 : m_Model_see p (sy_up (sy_up S 377 n p) 374 7 (nI (n + 1))) = some (nI (n + 1), sy_up (sy_up (sy_up (sy_up S 377 n p) 374 7 (nI (n + 1))) 405 n p) 392 28 (nI (n + 1))) := by
        unfold m_Model_see
        rw [zq_in_t hp.1 hp.2]
        simp only [sy_g, sy_c, sy_b]
        have q : sy_up (sy_up S 377 n p) 374 7 (nI (n + 1)) 392 28 = nI n := by rw [zz_up1 (by decide), zz_up1 (by decide), h0]
        simp only [q]
        rw [if_neg (by decide), if_neg (fun q2 => by have := (nI_eq (show n < 2 ^ 31 by omega) (show 5 < 2 ^ 31 by omega)).mp q2; omega), if_pos (zz_in hn2 (by omega)), zz_cl (by omega), zz_up1 (show (392 : Nat) ≠ 405 by decide), q, nI_1, zz_upo, if_pos rfl]
      refine zo_two e1 e2 ⟨e, wc, M, ?_⟩
      have ch : ∀ D : Nat → Nat → Prop, ¬ D 377 n → ¬ D 374 7 → ¬ D 405 n → ¬ D 392 28 → zc_eq D S (sy_up (sy_up (sy_up (sy_up S 377 n p) 374 7 (nI (n + 1))) 405 n p) 392 28 (nI (n + 1))) := fun D a b c d => zc_trans (zc_trans (zc_trans (zc_up a) (zc_up b)) (zc_up c)) (zc_up d)
      refine ⟨zi_edge_f (ch _ ?_ ?_ ?_ ?_) g1, zi_now_f (ch _ ?_ ?_ ?_ ?_) g2, zi_seed_f (ch _ ?_ ?_ ?_ ?_) g3, zi_past_f (ch _ ?_ ?_ ?_ ?_) g4, zi_img_f (ch _ ?_ ?_ ?_ ?_) g5, zi_text_f (ch _ ?_ ?_ ?_ ?_) g6, zi_fault_f (ch _ ?_ ?_ ?_ ?_) g7, ⟨n + 1, by omega, ?_, ?_, fun i hi => ?_⟩, zi_book_f (ch _ ?_ ?_ ?_ ?_) g9⟩
      all_goals first | (unfold zd_edge; omega) | (unfold zd_now; omega) | (unfold zd_seed; omega) | (unfold zd_past; omega) | (unfold zd_img; omega) | (unfold zd_text; omega) | (unfold zd_fault; omega) | (unfold zd_book; omega) | skip
      · simp only [zz_up]; rfl
      · simp only [zz_up]; rfl
      · simp only [zz_up]
        by_cases q : i = n
        · subst q; simp
        · have := hl i (by omega)
          simp [q, this]
    · have : n = 5 := by omega
      subst this
      refine zo_two (r := -1000000004) (S1 := S) (S2 := S) ?_ ?_ gs
      · unfold m_Top_see
        rw [if_neg (by grind), if_pos hp.2, h2, if_neg (by decide)]
      · unfold m_Model_see
        rw [zq_in_t hp.1 hp.2]
        simp only [sy_c, h0]
        rw [if_neg (by decide), if_pos (show nI 5 = 5 from rfl)]
  · refine zo_two (r := -1000000002) (S1 := S) (S2 := S) ?_ ?_ gs
    · unfold m_Top_see
      grind
    · unfold m_Model_see
      rw [zq_in_f hp]
      rfl
theorem zo_seed (v : Int32) : zo_ok (m_Top_seed v) (m_Model_seed v) := by
  intro S e wc M c hc g
  have gs := zo_same g
  obtain ⟨g1, g2, g3, g4, g5, g6, g7, g8, g9⟩ := zi_all_m (show c ≤ c + 100 by omega) g
  by_cases hv : 0 ≤ v
  · refine zo_two (r := S 0 15) (S1 := sy_up S 0 15 v) (S2 := sy_up (sy_up S 0 15 v) 400 6 v) ?_ ?_ ⟨e, wc, M, ?_⟩
    · unfold m_Top_seed; simp only [sy_b, hv, if_true]
    · unfold m_Model_seed
      have q : sy_up S 0 15 v 400 6 = S 0 15 := by rw [zz_up1 (by decide)]; exact g3.1.symm
      simp only [sy_b, hv, if_true, show (6 : Int32).toNatClampNeg = 6 from rfl, q]
    · have ch : ∀ D : Nat → Nat → Prop, ¬ D 0 15 → ¬ D 400 6 → zc_eq D S (sy_up (sy_up S 0 15 v) 400 6 v) := fun D a b => zc_trans (zc_up a) (zc_up b)
      refine ⟨zi_edge_f (ch _ ?_ ?_) g1, zi_now_f (ch _ ?_ ?_) g2, ⟨?_, ?_⟩, zi_past_f (ch _ ?_ ?_) g4, zi_img_f (ch _ ?_ ?_) g5, zi_text_f (ch _ ?_ ?_) g6, zi_fault_f (ch _ ?_ ?_) g7, zi_seen_f (ch _ ?_ ?_) g8, zi_book_f (ch _ ?_ ?_) g9⟩
      all_goals first | (unfold zd_edge; omega) | (unfold zd_now; omega) | (unfold zd_past; omega) | (unfold zd_img; omega) | (unfold zd_text; omega) | (unfold zd_fault; omega) | (unfold zd_seen; omega) | (unfold zd_book; omega) | skip
      · simp only [zz_up]; rfl
      · rw [zz_upo, if_pos rfl]; exact hv
  · refine zo_two (r := -1000000002) (S1 := S) (S2 := S) ?_ ?_ gs
    · unfold m_Top_seed; simp only [hv, if_false]
    · unfold m_Model_seed; simp only [hv, if_false]
theorem zo_tear : zo_ok m_Top_tear m_Model_tear := by
  intro S e wc M c hc g
  obtain ⟨g1, g2, g3, g4, g5, g6, g7, ⟨n, hn, h2, h0, hl⟩, ⟨n2, hn2, k2, k0, kl⟩⟩ := zi_all_m (show c ≤ c + 100 by omega) g
  refine zo_two (r := nI n + nI n2) (S1 := sy_up (sy_up S 374 7 0) 384 3 0) (S2 := sy_up (sy_up (sy_up (sy_up S 374 7 0) 384 3 0) 392 28 0) 392 30 0) ?_ ?_ ⟨e, wc, M, ?_⟩
  · unfold m_Top_tear m_Seen_clear m_Book_clear
    simp only [sy_b, sy_c, h2, k2]
  · unfold m_Model_tear
    have q1 : sy_up (sy_up S 374 7 0) 384 3 0 392 28 = nI n := by rw [zz_up1 (by decide), zz_up1 (by decide), h0]
    have q2 : sy_up (sy_up S 374 7 0) 384 3 0 392 30 = nI n2 := by rw [zz_up1 (by decide), zz_up1 (by decide), k0]
    simp only [sy_b, q1, q2]
  · have ch : ∀ D : Nat → Nat → Prop, ¬ D 374 7 → ¬ D 384 3 → ¬ D 392 28 → ¬ D 392 30 → zc_eq D S (sy_up (sy_up (sy_up (sy_up S 374 7 0) 384 3 0) 392 28 0) 392 30 0) := fun D a b c d => zc_trans (zc_trans (zc_trans (zc_up a) (zc_up b)) (zc_up c)) (zc_up d)
    refine ⟨zi_edge_f (ch _ ?_ ?_ ?_ ?_) g1, zi_now_f (ch _ ?_ ?_ ?_ ?_) g2, zi_seed_f (ch _ ?_ ?_ ?_ ?_) g3, zi_past_f (ch _ ?_ ?_ ?_ ?_) g4, zi_img_f (ch _ ?_ ?_ ?_ ?_) g5, zi_text_f (ch _ ?_ ?_ ?_ ?_) g6, zi_fault_f (ch _ ?_ ?_ ?_ ?_) g7, ⟨0, by omega, ?_, ?_, fun i hi => absurd hi (by omega)⟩, ⟨0, by omega, ?_, ?_, fun i hi => absurd hi (by omega)⟩⟩
    all_goals first | (unfold zd_edge; omega) | (unfold zd_now; omega) | (unfold zd_seed; omega) | (unfold zd_past; omega) | (unfold zd_img; omega) | (unfold zd_text; omega) | (unfold zd_fault; omega) | (simp only [zz_up]; rfl)

/-! offers, takings -/
theorem zb_has : ∀ f, f < 8 → ∀ x, x < 3 → (((nI f >>> (nI x &&& 31)) &&& 1) = 1 ↔ ¬ (nI f &&& ((1 : Int32) <<< (nI x &&& 31))) = 0) := by decide +kernel
theorem zb_or : ∀ f, f < 8 → ∀ x, x < 3 → ∃ g, g < 8 ∧ nI f ||| ((1 : Int32) <<< (nI x &&& 31)) = nI g := by decide +kernel
def zs_falls (e : Nat → Nat → Int32) (v : Nat → Int32) (j x : Nat) : Prop := ¬ e 3 x ≤ e 2 (5 * j + 3) ∧ (v (25 + j) &&& ((1 : Int32) <<< (nI x &&& 31))) = 0
theorem zp_isTrickedBy {S : sy_St} {e : Nat → Nat → Int32} {wc M k j x : Nat} (he : ze_C S e wc M) (hw : ze_W e wc M) (hj : j < M) (hx : x < 3) : (zs_falls e (zv_K S k) j x → m_Sky_isTrickedBy k (nI j) (nI x) S = some (1, S)) ∧ (¬ zs_falls e (zv_K S k) j x → m_Sky_isTrickedBy k (nI j) (nI x) S = some (0, S)) := by
  have h6 : j < 6 := by have := hw.2.1; omega
  have i1 : sy_in (nI j) 6 = True := eq_true (zz_in h6 (by omega))
  have c1 : (nI j).toNatClampNeg = j := zz_cl (by omega)
  have i2 : sy_in (nI x) 3 = True := eq_true (zz_in hx (by omega))
  have c2 : (nI x).toNatClampNeg = x := zz_cl (by omega)
  have p3 := (he.2.2.2.1 j hj).2.2.2.1
  have p4 := he.2.2.2.2 x hx
  have t1 : m_Top_isWord (nI x) S = some (1, S) := by
    unfold m_Top_isWord
    rw [if_neg (nI_pos (by omega)), show (3 : Int32) = nI 3 from rfl, if_neg (nI_ge hx (by omega))]
  unfold m_Sky_isTrickedBy zs_falls
  rw [zp_isPerson he.2.1 hw.2.1 hj, zvK_f h6]
  simp only [sy_c, t1, sy_g, i1, i2, if_true, c1, c2, p3, p4]
  rw [if_neg (by decide), if_neg (by decide)]
  generalize (S (k + 4) j &&& ((1 : Int32) <<< (nI x &&& 31))) = z
  generalize e 3 x = a
  generalize e 2 (5 * j + 3) = b
  refine ⟨fun h => ?_, fun h => ?_⟩
  · rw [if_neg h.1, if_pos h.2]
  · by_cases q : a ≤ b
    · rw [if_pos q]
    · rw [if_neg q, if_neg (fun q2 => h ⟨q, q2⟩)]
theorem zq_falls {S : sy_St} {e : Nat → Nat → Int32} {wc M a j x : Nat} (he : ze_M S e wc M) (hw : ze_W e wc M) (hj : j < M) (hx : x < 3) (hf : ∃ f, f < 8 ∧ zv_M S a 0 (25 + j) = nI f) : (zs_falls e (zv_M S a 0) j x → m_Model_falls a 31 (nI j) (nI x) S = some (1, S)) ∧ (¬ zs_falls e (zv_M S a 0) j x → m_Model_falls a 31 (nI j) (nI x) S = some (0, S)) := by
  have h6 : j < 6 := by have := hw.2.1; omega
  have hM := hw.2.1
  obtain ⟨f, hf8, hf⟩ := hf
  have b3 : (5 * nI j + 3 : Int32) = nI (5 * j + 3) := by rw [show (5 : Int32) = nI 5 from rfl, pk_mul, show (3 : Int32) = nI 3 from rfl, nI_add]
  have d25 : (25 + nI j : Int32) = nI (25 + j) := by rw [show (25 : Int32) = nI 25 from rfl, nI_add]
  have i1 : sy_in (nI (5 * j + 3)) 30 = True := eq_true (zz_in (by omega) (by omega))
  have i2 : sy_in (nI x) 3 = True := eq_true (zz_in hx (by omega))
  have i3 : sy_in (nI (25 + j)) 31 = True := eq_true (zz_in (by omega) (by omega))
  have c1 : (nI (5 * j + 3)).toNatClampNeg = 5 * j + 3 := zz_cl (by omega)
  have c2 : (nI x).toNatClampNeg = x := zz_cl (by omega)
  have c3 : (nI (25 + j)).toNatClampNeg = 25 + j := zz_cl (by omega)
  have p3 := he.2.2.2.1 (5 * j + 3) (by omega)
  have p4 := he.2.2.2.2 x hx
  have r : S a (25 + j) = nI f := by rw [← hf, zvM_at (by omega) (by omega), Nat.zero_add]
  unfold m_Model_falls zs_falls
  rw [hf]
  simp only [sy_b, sy_g, sy_c, b3, d25, i1, i2, i3, if_true, c1, c2, c3, p3, p4, r, m_Model_has]
  have hz := zb_has f hf8 x hx
  generalize (nI f &&& ((1 : Int32) <<< (nI x &&& 31))) = z at hz ⊢
  generalize ((nI f >>> (nI x &&& 31)) &&& 1) = y at hz ⊢
  generalize e 3 x = a1
  generalize e 2 (5 * j + 3) = b
  refine ⟨fun h => ?_, fun h => ?_⟩
  · have : ¬ y = 1 := fun q => (hz.mp q) h.2
    rw [if_neg h.1, if_neg this]; rfl
  · by_cases q : a1 ≤ b
    · rw [if_pos q]
    · have : y = 1 := hz.mpr (fun q2 => h ⟨q, q2⟩)
      rw [if_neg q, if_pos this]; rfl
/-- who takes over: by a word, or as a son -/
def zs_hand (v : Nat → Int32) (j : Nat) : Nat → Int32 := upd (upd v 4 (nI j)) 5 (-1)
def zs_trick (v : Nat → Int32) (j x : Nat) : Nat → Int32 := zs_hand (upd v (25 + j) (v (25 + j) ||| ((1 : Int32) <<< (nI x &&& 31)))) j
theorem zp_handTo {S : sy_St} {k j : Nat} : zz_wp (m_Sky_handTo k (nI j) S) (fun _ S1 => zf_o S S1 k k ∧ zv_K S1 k = zs_hand (zv_K S k) j) := by
  unfold m_Sky_handTo zs_hand
  simp only [zz_b, zz_some]
  refine ⟨fun i hi => ?_, ?_⟩
  · rw [zz_up1 (by omega), zz_up1 (by omega)]
  · rw [show (10 : Nat) = 5 + 5 from rfl, zvK_up_s (by omega), show (9 : Nat) = 5 + 4 from rfl, zvK_up_s (by omega)]
theorem zp_trick {S : sy_St} {e : Nat → Nat → Int32} {wc M k j x : Nat} (he : ze_C S e wc M) (hw : ze_W e wc M) (hj : j < M) (hx : x < 3) : (zs_falls e (zv_K S k) j x → zz_wp (m_Sky_trick k (nI j) (nI x) S) (fun r S1 => r = 1 ∧ zf_o S S1 k (k + 4) ∧ zv_K S1 k = zs_trick (zv_K S k) j x)) ∧ (¬ zs_falls e (zv_K S k) j x → m_Sky_trick k (nI j) (nI x) S = some (0, S)) := by
  have h6 : j < 6 := by have := hw.2.1; omega
  have i1 : sy_in (nI j) 6 = True := eq_true (zz_in h6 (by omega))
  have c1 : (nI j).toNatClampNeg = j := zz_cl (by omega)
  obtain ⟨a, b⟩ := zp_isTrickedBy (k := k) he hw hj hx
  refine ⟨fun h => ?_, fun h => ?_⟩
  · unfold m_Sky_trick
    rw [a h]
    simp only [zz_c, zz_some, zz_i, zz_g, zz_b, i1, true_and, c1]
    refine ⟨fun q => absurd q (by decide), fun _ => ?_⟩
    refine zz_mono (zp_handTo (j := j)) (fun r S1 ⟨q1, q2⟩ => ⟨fun i hi => ?_, ?_⟩)
    · rw [q1 i (by omega), zz_up1 (by omega)]
    · rw [q2, zvK_up_f h6]; unfold zs_trick; rw [zvK_f h6]
  · unfold m_Sky_trick
    rw [b h]
    rfl
theorem zq_takesIt {S : sy_St} {j : Nat} : zz_wp (m_Model_takesIt (nI j) S) (fun _ S1 => zf_o S S1 400 400 ∧ zv_M S1 400 0 = zs_hand (zv_M S 400 0) j ∧ S1 400 6 = S 400 6) := by
  unfold m_Model_takesIt zs_hand
  simp only [zz_b, zz_some, show (4 : Int32).toNatClampNeg = 4 from rfl, show (5 : Int32).toNatClampNeg = 5 from rfl]
  refine ⟨fun i hi => ?_, ?_, ?_⟩
  · rw [zz_up1 (by omega), zz_up1 (by omega)]
  · rw [zvM_up0 (by omega) (by omega), zvM_up0 (by omega) (by omega)]
  · rw [zz_upo, if_neg (by omega), zz_upo, if_neg (by omega)]
theorem zq_offers {S : sy_St} {e : Nat → Nat → Int32} {wc M a j x : Nat} (he : ze_M S e wc M) (hw : ze_W e wc M) (hj : j < M) (hx : x < 3) (hf : ∃ f, f < 8 ∧ zv_M S a 0 (25 + j) = nI f) : (zs_falls e (zv_M S a 0) j x → zz_wp (m_Model_offers a 31 (nI j) (nI x) S) (fun r S1 => r = 1 ∧ zf_o S S1 a a ∧ zv_M S1 a 0 = zs_trick (zv_M S a 0) j x ∧ S1 a 6 = S a 6)) ∧ (¬ zs_falls e (zv_M S a 0) j x → m_Model_offers a 31 (nI j) (nI x) S = some (0, S)) := by
  have h6 : j < 6 := by have := hw.2.1; omega
  have d25 : (25 + nI j : Int32) = nI (25 + j) := by rw [show (25 : Int32) = nI 25 from rfl, nI_add]
  have i3 : sy_in (nI (25 + j)) 31 = True := eq_true (zz_in (by omega) (by omega))
  have i4 : sy_in 4 31 = True := eq_true (zz_in (c := 4) (by omega) (by omega))
  have i5 : sy_in 5 31 = True := eq_true (zz_in (c := 5) (by omega) (by omega))
  have c3 : (nI (25 + j)).toNatClampNeg = 25 + j := zz_cl (by omega)
  have r : zv_M S a 0 (25 + j) = S a (25 + j) := by rw [zvM_at (by omega) (by omega), Nat.zero_add]
  obtain ⟨p1, p2⟩ := zq_falls he hw hj hx hf
  refine ⟨fun h => ?_, fun h => ?_⟩
  · unfold m_Model_offers
    rw [p1 h]
    simp only [zz_c, zz_some, zz_i, zz_g, zz_b, d25, i3, i4, i5, true_and, c3, show (4 : Int32).toNatClampNeg = 4 from rfl, show (5 : Int32).toNatClampNeg = 5 from rfl]
    refine ⟨fun q => absurd q (by decide), fun _ => ⟨fun i hi => ?_, ?_, ?_⟩⟩
    · rw [zz_up1 (by omega), zz_up1 (by omega), zz_up1 (by omega)]
    · rw [zvM_up0 (by omega) (by omega), zvM_up0 (by omega) (by omega), zvM_up0 (by omega) (by omega)]; unfold zs_trick zs_hand; rw [r]
    · rw [zz_upo, if_neg (by omega), zz_upo, if_neg (by omega), zz_upo, if_neg (by omega)]
  · unfold m_Model_offers
    rw [p2 h]
    rfl
theorem zs_hand_W {v : Nat → Int32} {M c j : Nat} (h : zv_W v M c) (hj : j < M) : zv_W (zs_hand v j) M c := by
  obtain ⟨a1, a2, a3, a4, a5, a6⟩ := h
  refine ⟨a1, a2, Or.inr ⟨j, hj, rfl⟩, Or.inl rfl, fun p hp => ?_, fun p hp => ?_⟩
  · have : zs_hand v j (7 + p) = v (7 + p) := by unfold zs_hand upd; rw [if_neg (by omega), if_neg (by omega)]
    rw [this]; exact a5 p hp
  · have : zs_hand v j (25 + p) = v (25 + p) := by unfold zs_hand upd; rw [if_neg (by omega), if_neg (by omega)]
    rw [this]; exact a6 p hp
theorem zs_trick_W {v : Nat → Int32} {M c j x : Nat} (hM : M ≤ 6) (h : zv_W v M c) (hj : j < M) (hx : x < 3) : zv_W (zs_trick v j x) M c := by
  refine zs_hand_W ?_ hj
  obtain ⟨a1, a2, a3, a4, a5, a6⟩ := h
  have q : ∀ i, i < 25 → upd v (25 + j) (v (25 + j) ||| ((1 : Int32) <<< (nI x &&& 31))) i = v i := fun i hi => by unfold upd; rw [if_neg (by omega)]
  refine ⟨by rw [q 0 (by omega)]; exact a1, by rw [q 1 (by omega)]; exact a2, by rw [q 4 (by omega)]; exact a3, by rw [q 5 (by omega)]; exact a4, fun p hp => ?_, fun p hp => ?_⟩
  · by_cases h30 : 7 + p < 25
    · rw [q _ h30]; exact a5 p hp
    · have : upd v (25 + j) (v (25 + j) ||| ((1 : Int32) <<< (nI x &&& 31))) (7 + p) = v (7 + p) := by unfold upd; rw [if_neg (by omega)]
      rw [this]; exact a5 p hp
  · by_cases q : p = j
    · subst q
      obtain ⟨f, hf, hv⟩ := a6 p hp
      obtain ⟨g, hg, hr⟩ := zb_or f hf x hx
      exact ⟨g, hg, by unfold upd; rw [if_pos rfl, hv, hr]⟩
    · have : upd v (25 + j) (v (25 + j) ||| ((1 : Int32) <<< (nI x &&& 31))) (25 + p) = v (25 + p) := by unfold upd; rw [if_neg (by omega)]
      rw [this]; exact a6 p hp
theorem zq_holds {S : sy_St} {a : Nat} {x : Int32} : m_Model_holds a 31 x S = some (if x = S a 4 ∨ x = S a 5 then 1 else 0, S) := by
  have i4 : sy_in 4 31 = True := eq_true (zz_in (c := 4) (by omega) (by omega))
  have i5 : sy_in 5 31 = True := eq_true (zz_in (c := 5) (by omega) (by omega))
  unfold m_Model_holds
  simp only [sy_g, i4, i5, if_true, show (4 : Int32).toNatClampNeg = 4 from rfl, show (5 : Int32).toNatClampNeg = 5 from rfl]
  by_cases h1 : x = S a 4
  · rw [if_pos h1, if_pos (Or.inl h1)]
  · rw [if_neg h1]
    by_cases h2 : x = S a 5
    · rw [if_pos h2, if_pos (Or.inr h2)]
    · rw [if_neg h2, if_neg (fun q => q.elim h1 h2)]
