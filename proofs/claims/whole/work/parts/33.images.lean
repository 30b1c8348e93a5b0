theorem zo_undo (n : Int32) : zo_ok (m_Top_undo n) (m_Model_undo n) := by
  intro S e wc M c hc g
  have gs := zo_same g
  have gg := g
  obtain ⟨⟨hw, hm, hcl⟩, hnow, hseed, ⟨n0, nx, hn0, hnx, p1, p2, p3, pq⟩, -⟩ := g
  by_cases hn : 1 ≤ n ∧ n ≤ 60
  · obtain ⟨k, hk, rfl⟩ := nI_of2 (M := 60) (n := 60) rfl (show ¬ n < 0 by grind) hn.2
    have hk1 : 1 ≤ k := by
      rcases Nat.eq_zero_or_pos k with q | q
      · subst q; exact absurd hn.1 (by decide)
      · exact q
    by_cases hle : k ≤ n0
    · have hle2 : nI k ≤ nI n0 := nI_le hle (by omega)
      obtain ⟨q1, q2⟩ := pq (n0 - k) (by omega)
      have hx' : (nI nx + 60 - nI k - (nI nx + 60 - nI k) / 60 * 60 : Int32) = nI ((nx + 60 - k) % 60) := by
        rw [show (60 : Int32) = nI 60 from rfl, nI_add, pk_sub (by omega), pk_rem (by omega) (by omega) (by omega)]
      have hidx : (nx + 60 - n0 + (n0 - k)) % 60 = (nx + 60 - k) % 60 := by omega
      rw [hidx] at q1
      have hlt : (nx + 60 - k) % 60 < 60 := Nat.mod_lt _ (by omega)
      unfold m_Top_undo m_Past_takeBack
      simp only [zz_i, zz_c, zz_b, zz_g, p1, p2]
      refine ⟨fun q => absurd q (by grind), fun _ => ⟨fun _ => ⟨fun _ => ⟨fun q => absurd q (by grind), fun _ => ⟨fun _ => ?_, fun q => absurd hle2 q⟩⟩, fun q => absurd hle2 q⟩, fun q => absurd hn.2 q⟩⟩
      rw [hx']
      have r55 : sy_up S 55 2 (nI ((nx + 60 - k) % 60)) 55 1 = nI n0 := by rw [zz_upo, if_neg (by omega), p1]
      rw [r55, pk_sub hle]
      have r552 : sy_up (sy_up S 55 2 (nI ((nx + 60 - k) % 60))) 55 1 (nI (n0 - k)) 55 2 = nI ((nx + 60 - k) % 60) := by rw [zz_upo, if_neg (by omega), zz_upo, if_pos rfl]
      rw [r552]
      refine ⟨zz_in hlt (by omega), ?_⟩
      rw [zz_cl (by omega)]
      refine zz_mono (zp_copyFrom (k := 45) (a := 57 + 5 * ((nx + 60 - k) % 60)) (by omega)) (fun r S1 ⟨f1, k1⟩ => ?_)
      simp only [zz_some]
      have fr1 : ∀ i, i ≠ 55 → (i < 45 ∨ 49 < i) → S1 i = S i := fun i a1 a2 => by rw [f1 i (by omega), zz_up1 a1, zz_up1 a1]
      have k1' : zv_K S1 45 = zv_M S 404 (31 * (n0 - k)) := by rw [k1, zvK_a (by omega), zvK_a (by omega), q1]
      unfold m_Model_undo
      rw [zq_in_t hn.1 hn.2]
      simp only [zz_c, zz_some, zz_i, zz_b]
      rw [fr1 392 (by omega) (by omega), p3]
      refine ⟨fun q => absurd q (by decide), fun _ => ⟨fun _ => ?_, fun q => absurd hle2 q⟩⟩
      rw [pk_sub hle, zz_upo, if_pos rfl, show (31 : Int32) = nI 31 from rfl, pk_mul, show (0 : Int32) = nI 0 from rfl]
      refine zz_mono (zq_copy (a := 404) (n0 := 1860) (b := 400) (n2 := 31) (x := 31 * (n0 - k)) (y := 0) (by omega) (by omega) (by omega) (by omega) (by omega)) (fun r S2 ⟨f2, z2⟩ => ?_)
      have e404 : ∀ z, sy_up S1 392 26 (nI (n0 - k)) 404 z = S 404 z := fun z => by rw [zz_up1 (by omega), fr1 404 (by omega) (by omega)]
      have e400 : sy_up S1 392 26 (nI (n0 - k)) 400 6 = S 400 6 := by rw [zz_up1 (by omega), fr1 400 (by omega) (by omega)]
      rw [show (6 : Int32).toNatClampNeg = 6 from rfl, e400]
      generalize hS3 : sy_up S2 400 6 (S 400 6) = S3
      have hS3' : ∀ i j, S3 i j = if i = 400 ∧ j = 6 then S 400 6 else S2 i j := fun i j => by
        rw [← hS3, zz_up]
        by_cases a : i = 400
        · subst a
          by_cases b : j = 6
          · subst b; rfl
          · rw [if_pos rfl, if_neg b, if_neg (fun q => b q.2)]
        · rw [if_neg a, if_neg (fun q => a q.1)]
      have v3 : zv_M S3 400 0 = zv_M S 404 (31 * (n0 - k)) := by
        funext j
        unfold zv_M
        by_cases h6 : j = 6
        · rw [if_pos h6, if_pos h6]
        · rw [if_neg h6, if_neg h6]
          by_cases h31 : j < 31
          · rw [if_pos h31, if_pos h31, hS3', if_neg (by omega), z2, if_pos (by omega), e404]
            congr 1; omega
          · rw [if_neg h31, if_neg h31]
      have fr3 : ∀ i j, i ≠ 400 → ¬ (i = 392 ∧ j = 26) → S3 i j = S1 i j := fun i j a1 a2 => by
        rw [hS3', if_neg (fun q => a1 q.1), f2 i (by omega), zz_up]
        by_cases b : i = 392
        · subst b; rw [if_pos rfl, if_neg (fun q => a2 ⟨rfl, q⟩)]
        · rw [if_neg b]
      refine ⟨?_, e, wc, M, ?_⟩
      · rw [show (nI 0).toNatClampNeg = 0 from rfl, show S3 400 0 = zv_M S3 400 0 0 from rfl, v3, ← k1']; rfl
      · obtain ⟨g1, g2, g3, g4, g5, g6, g7, g8, g9⟩ := zi_all_m (show c ≤ c + 100 by omega) gg
        have q : ∀ D : Nat → Nat → Prop, (∀ i j, D i j → i ≠ 55 ∧ (i < 45 ∨ 49 < i) ∧ i ≠ 400 ∧ ¬ (i = 392 ∧ j = 26)) → zc_eq D S S3 := fun D hd i j d => by rw [fr3 i j (hd i j d).2.2.1 (hd i j d).2.2.2, fr1 i (hd i j d).1 (hd i j d).2.1]
        refine ⟨zi_edge_f (q _ ?_) g1, ⟨?_, ?_⟩, ⟨?_, ?_⟩, ⟨n0 - k, (nx + 60 - k) % 60, by omega, hlt, ?_, ?_, ?_, fun i hi => ?_⟩, zi_img_f (q _ ?_) g5, zi_text_f (q _ ?_) g6, zi_fault_f (q _ ?_) g7, zi_seen_f (q _ ?_) g8, zi_book_f (q _ ?_) g9⟩
        · intro i j d; unfold zd_edge at d; omega
        · rw [v3, ← k1']; exact zv_Kc (fun i j a1 a2 => fr3 i j (by omega) (by omega))
        · rw [v3]; exact zv_W_m q2 (by omega)
        · rw [fr3 0 15 (by omega) (by omega), fr1 0 (by omega) (by omega), hS3', if_pos ⟨rfl, rfl⟩]; exact hseed.1
        · rw [hS3', if_pos ⟨rfl, rfl⟩]; exact hseed.2
        · rw [fr3 55 1 (by omega) (by omega), f1 55 (by omega), zz_upo, if_pos rfl]
        · rw [fr3 55 2 (by omega) (by omega), f1 55 (by omega), zz_upo, if_neg (by omega), zz_upo, if_pos rfl]
        · rw [hS3', if_neg (by omega), f2 392 (by omega), zz_upo, if_pos rfl]
        · obtain ⟨r1, r2⟩ := pq i (by omega)
          rw [show ((nx + 60 - k) % 60 + 60 - (n0 - k) + i) % 60 = (nx + 60 - n0 + i) % 60 by omega]
          have hm2 : (nx + 60 - n0 + i) % 60 < 60 := Nat.mod_lt _ (by omega)
          have e1 : zv_K S3 (57 + 5 * ((nx + 60 - n0 + i) % 60)) = zv_K S (57 + 5 * ((nx + 60 - n0 + i) % 60)) := zv_Kc (fun x j a1 a2 => by rw [fr3 x j (by omega) (by omega), fr1 x (by omega) (by omega)])
          have e2 : zv_M S3 404 (31 * i) = zv_M S 404 (31 * i) := zv_Mc (fun j a1 a2 => by rw [fr3 404 _ (by omega) (by omega), fr1 404 (by omega) (by omega)])
          rw [e1, e2]
          exact ⟨r1, zv_W_m r2 (by omega)⟩
        · intro i j d; unfold zd_img at d; omega
        · intro i j d; unfold zd_text at d; omega
        · intro i j d; unfold zd_fault at d; omega
        · intro i j d; unfold zd_seen at d; omega
        · intro i j d; unfold zd_book at d; omega
    · have hle2 : ¬ nI k ≤ nI n0 := nI_ge (by omega) (by omega)
      refine zo_two (r := -1000000003) (S1 := S) (S2 := S) ?_ ?_ gs
      · unfold m_Top_undo
        rw [if_neg (by grind), if_pos hn.2, p1, if_neg hle2]
      · unfold m_Model_undo
        rw [zq_in_t hn.1 hn.2]
        simp only [sy_c, p3, if_neg hle2]; rfl
  · refine zo_two (r := -1000000002) (S1 := S) (S2 := S) ?_ ?_ gs
    · unfold m_Top_undo
      by_cases q : n < 1
      · rw [if_pos q]
      · rw [if_neg q, if_neg (by grind)]
    · unfold m_Model_undo; rw [zq_in_f hn]; rfl
theorem zo_two_ix (w : Int32) : (∃ x, x < 2 ∧ w = nI x) ∨ (w < 0 ∨ 2 ≤ w) := by
  rcases pk_ix w (n := 2) (by omega) with h | h | h
  · exact Or.inr (Or.inl h)
  · exact Or.inr (Or.inr h)
  · exact Or.inl h
theorem zp_isImage_t {S : sy_St} {x : Nat} (hx : x < 2) : m_Top_isImage (nI x) S = some (1, S) := by
  unfold m_Top_isImage
  rw [if_neg (nI_pos (by omega)), show (2 : Int32) = nI 2 from rfl, if_neg (nI_ge hx (by omega))]
theorem zp_isImage_f {S : sy_St} {w : Int32} (h : w < 0 ∨ 2 ≤ w) : m_Top_isImage w S = some (0, S) := by
  unfold m_Top_isImage
  by_cases a : w < 0
  · rw [if_pos a]
  · rw [if_neg a, if_pos (h.resolve_left a)]
theorem zo_keep (w : Int32) : zo_ok (m_Top_keep w) (m_Model_keep w) := by
  intro S e wc M c hc g
  have gs := zo_same g
  have gg := g
  obtain ⟨⟨hw, hm, hcl⟩, hnow, hseed, ⟨n0, nx, hn0, hnx, p1, p2, p3, pq⟩, himg, -⟩ := g
  rcases zo_two_ix w with ⟨x, hx, rfl⟩ | hx
  · have gx : sy_in (nI x) 2 = True := eq_true (zz_in hx (by omega))
    have cx : (nI x).toNatClampNeg = x := zz_cl (by omega)
    unfold m_Top_keep m_Past_forget
    rw [zp_isImage_t hx]
    simp only [zz_c, zz_some, zz_i, zz_g, zz_b, gx, true_and, cx]
    refine ⟨fun q => absurd q (by decide), fun _ => ?_⟩
    refine zz_mono (zp_copyFrom (k := 358 + 5 * x) (a := 45) (by omega)) (fun r S1 ⟨f1, k1⟩ => ?_)
    rw [f1 0 (by omega), show vp_nar .boolean 1 = 1 from rfl]
    generalize hS2 : sy_up (sy_up (sy_up (sy_up S1 369 x (S 0 15)) 368 x 1) 55 1 0) 55 2 0 = S2
    have fr2 : ∀ i j, ¬ (i = 55 ∧ (j = 1 ∨ j = 2)) → ¬ (i = 369 ∧ j = x) → ¬ (i = 368 ∧ j = x) → S2 i j = S1 i j := fun i j a1 a2 a3 => by
      rw [← hS2]; simp only [zz_up]; grind
    have q369 : S2 369 x = S 0 15 := by rw [← hS2]; simp only [zz_up]; grind
    have q368 : S2 368 x = 1 := by rw [← hS2]; simp only [zz_up]; grind
    have q551 : S2 55 1 = 0 := by rw [← hS2]; simp only [zz_up]; rfl
    have q552 : S2 55 2 = 0 := by rw [← hS2]; simp only [zz_up]; rfl
    have fr : ∀ i j, i ≠ 55 → i ≠ 368 → i ≠ 369 → (i < 358 + 5 * x ∨ 358 + 5 * x + 4 < i) → S2 i j = S i j := fun i j a1 a2 a3 a4 => by rw [fr2 i j (by omega) (by omega) (by omega), f1 i a4]
    have k2 : zv_K S2 (358 + 5 * x) = zv_M S 400 0 := by
      rw [← hnow.1, ← k1]; exact zv_Kc (fun i j a1 a2 => fr2 i j (by omega) (by omega) (by omega))
    unfold m_Model_keep
    rw [zq_in_t (nI_pos' (by omega)) (by rw [show (1 : Int32) = nI 1 from rfl]; exact nI_le (by omega) (by omega))]
    simp only [zz_c, zz_some, zz_i, zz_g, zz_b, gx, true_and, cx]
    refine ⟨fun q => absurd q (by decide), fun _ => ?_⟩
    rw [show (31 : Int32) = nI 31 from rfl, pk_mul, show (0 : Int32) = nI 0 from rfl]
    refine zz_mono (zq_copy (a := 400) (n0 := 31) (b := 402) (n2 := 62) (x := 0) (y := 31 * x) (by omega) (by omega) (by omega) (by omega) (by omega)) (fun r S3 ⟨f3, z3⟩ => ?_)
    refine ⟨e, wc, M, ?_⟩
    rw [show vp_nar .boolean 1 = 1 from rfl, show nI 0 = 0 from rfl]
    have z3' : ∀ z, S3 402 z = if 31 * x ≤ z ∧ z < 31 * x + 31 then S 400 (z - 31 * x) else S 402 z := fun z => by
      rw [z3, fr 402 z (by omega) (by omega) (by omega) (by omega), fr 400 _ (by omega) (by omega) (by omega) (by omega), Nat.zero_add]
    generalize hS4 : sy_up (sy_up S3 403 x 1) 392 26 0 = S4
    have fr4 : ∀ i j, ¬ (i = 392 ∧ j = 26) → ¬ (i = 403 ∧ j = x) → S4 i j = S3 i j := fun i j a1 a2 => by
      rw [← hS4]; simp only [zz_up]; grind
    have q403 : S4 403 x = 1 := by rw [← hS4]; simp only [zz_up]; grind
    have q392 : S4 392 26 = 0 := by rw [← hS4]; simp only [zz_up]; rfl
    have fr5 : ∀ i j, i ≠ 55 → i ≠ 368 → i ≠ 369 → (i < 358 + 5 * x ∨ 358 + 5 * x + 4 < i) → ¬ (i = 392 ∧ j = 26) → ¬ (i = 403 ∧ j = x) → i ≠ 402 → S4 i j = S i j := fun i j a1 a2 a3 a4 a5 a6 a7 => by rw [fr4 i j a5 a6, f3 i (by omega), fr i j a1 a2 a3 a4]
    obtain ⟨g1, g2, g3, g4, g5, g6, g7, g8, g9⟩ := zi_all_m (show c ≤ c + 100 by omega) gg
    have q : ∀ D : Nat → Nat → Prop, (∀ i j, D i j → i ≠ 55 ∧ i ≠ 368 ∧ i ≠ 369 ∧ (i < 358 ∨ 367 < i) ∧ ¬ (i = 392 ∧ j = 26) ∧ i ≠ 403 ∧ i ≠ 402) → zc_eq D S S4 := fun D hd i j d => by
      obtain ⟨a1, a2, a3, a4, a5, a6, a7⟩ := hd i j d
      exact fr5 i j a1 a2 a3 (by omega) a5 (by omega) a7
    refine ⟨zi_edge_f (q _ ?_) g1, zi_now_f (q _ ?_) g2, zi_seed_f (q _ ?_) g3, ⟨0, 0, by omega, by omega, ?_, ?_, q392, fun i hi => absurd hi (by omega)⟩, ?_, zi_text_f (q _ ?_) g6, zi_fault_f (q _ ?_) g7, zi_seen_f (q _ ?_) g8, zi_book_f (q _ ?_) g9⟩
    · intro i j d; unfold zd_edge at d; omega
    · intro i j d; unfold zd_now at d; omega
    · intro i j d; unfold zd_seed at d; omega
    · rw [fr4 55 1 (by omega) (by omega), f3 55 (by omega)]; exact q551
    · rw [fr4 55 2 (by omega) (by omega), f3 55 (by omega)]; exact q552
    · intro i hi
      by_cases hix : i = x
      · subst hix
        rw [fr4 368 i (by omega) (by omega), f3 368 (by omega), q368, q403]
        refine ⟨rfl, Or.inr rfl, fun _ => ?_⟩
        have e1 : zv_K S4 (358 + 5 * i) = zv_M S 400 0 := by rw [← k2]; exact zv_Kc (fun y j a1 a2 => by rw [fr4 y j (by omega) (by omega), f3 y (by omega)])
        have e2 : zv_M S4 402 (31 * i) = zv_M S 400 0 := by
          funext j
          unfold zv_M
          by_cases h6 : j = 6
          · rw [if_pos h6, if_pos h6]
          · rw [if_neg h6, if_neg h6]
            by_cases h31 : j < 31
            · rw [if_pos h31, if_pos h31, fr4 402 _ (by omega) (by omega), z3', if_pos (by omega)]
              congr 1; omega
            · rw [if_neg h31, if_neg h31]
        have e3 : S4 369 i = S 0 15 := by rw [fr4 369 i (by omega) (by omega), f3 369 (by omega), q369]
        have e4 : S4 402 (31 * i + 6) = S 400 6 := by rw [fr4 402 _ (by omega) (by omega), z3', if_pos (by omega)]; congr 1; omega
        rw [e1, e2, e3, e4, hseed.1]
        exact ⟨rfl, zv_W_m hnow.2 (by omega), rfl, hseed.2⟩
      · obtain ⟨b1, b2, b3⟩ := g5 i hi
        have e0 : S4 368 i = S 368 i := by rw [fr4 368 i (by omega) (by omega), f3 368 (by omega), fr2 368 i (by omega) (by omega) (by omega), f1 368 (by omega)]
        have e01 : S4 403 i = S 403 i := by rw [fr4 403 i (by omega) (by omega), f3 403 (by omega), fr2 403 i (by omega) (by omega) (by omega), f1 403 (by omega)]
        have e1 : zv_K S4 (358 + 5 * i) = zv_K S (358 + 5 * i) := zv_Kc (fun y j a1 a2 => fr5 y j (by omega) (by omega) (by omega) (by omega) (by omega) (by omega) (by omega))
        have e2 : zv_M S4 402 (31 * i) = zv_M S 402 (31 * i) := zv_Mc (fun j a1 a2 => by rw [fr4 402 _ (by omega) (by omega), z3', if_neg (by omega)])
        have e3 : S4 369 i = S 369 i := by rw [fr4 369 i (by omega) (by omega), f3 369 (by omega), fr2 369 i (by omega) (by omega) (by omega), f1 369 (by omega)]
        have e4 : S4 402 (31 * i + 6) = S 402 (31 * i + 6) := by rw [fr4 402 _ (by omega) (by omega), z3', if_neg (by omega)]
        rw [e0, e01, e1, e2, e3, e4]
        exact ⟨b1, b2, b3⟩
    · intro i j d; unfold zd_text at d; omega
    · intro i j d; unfold zd_fault at d; omega
    · intro i j d; unfold zd_seen at d; omega
    · intro i j d; unfold zd_book at d; omega
  · refine zo_two (r := -1000000001) (S1 := S) (S2 := S) ?_ ?_ gs
    · unfold m_Top_keep; rw [zp_isImage_f hx]; rfl
    · unfold m_Model_keep; rw [zq_in_f (by grind)]; rfl
