theorem zo_goBack (w : Int32) : zo_ok (m_Top_goBack w) (m_Model_goBack w) := by
  intro S e wc M c hc g
  have gs := zo_same g
  have gg := g
  obtain ⟨⟨hw, hm, hcl⟩, hnow, hseed, -, himg, -⟩ := g
  rcases zo_two_ix w with ⟨x, hx, rfl⟩ | hx
  · have gx : sy_in (nI x) 2 = True := eq_true (zz_in hx (by omega))
    have cx : (nI x).toNatClampNeg = x := zz_cl (by omega)
    obtain ⟨i1, i2, i3⟩ := himg x hx
    by_cases hk : S 368 x = 0
    · refine zo_two (r := -1000000003) (S1 := S) (S2 := S) ?_ ?_ gs
      · unfold m_Top_goBack
        rw [zp_isImage_t hx]
        simp only [sy_c, sy_g, gx, if_true, cx, hk]; rfl
      · unfold m_Model_goBack
        rw [zq_in_t (nI_pos' (by omega)) (by rw [show (1 : Int32) = nI 1 from rfl]; exact nI_le (by omega) (by omega))]
        simp only [sy_c, sy_g, gx, if_true, cx, ← i1, hk]; rfl
    · obtain ⟨j1, j2, j3, j4⟩ := i3 (i2.resolve_left hk)
      unfold m_Top_goBack m_Past_forget
      rw [zp_isImage_t hx]
      simp only [zz_c, zz_some, zz_i, zz_g, zz_b, gx, true_and, cx]
      refine ⟨fun q => absurd q (by decide), fun _ => ⟨fun q => absurd q hk, fun _ => ?_⟩⟩
      refine zz_mono (zp_copyFrom (k := 45) (a := 358 + 5 * x) (by omega)) (fun r S1 ⟨f1, k1⟩ => ?_)
      rw [f1 369 (by omega)]
      generalize hS2 : sy_up (sy_up (sy_up S1 0 15 (S 369 x)) 55 1 0) 55 2 0 = S2
      have fr2 : ∀ i j, ¬ (i = 55 ∧ (j = 1 ∨ j = 2)) → ¬ (i = 0 ∧ j = 15) → S2 i j = S1 i j := fun i j a1 a2 => by
        rw [← hS2]; simp only [zz_up]; grind
      have q0 : S2 0 15 = S 369 x := by rw [← hS2]; simp only [zz_up]; rfl
      have q551 : S2 55 1 = 0 := by rw [← hS2]; simp only [zz_up]; rfl
      have q552 : S2 55 2 = 0 := by rw [← hS2]; simp only [zz_up]; rfl
      have fr : ∀ i j, i ≠ 55 → ¬ (i = 0 ∧ j = 15) → (i < 45 ∨ 49 < i) → S2 i j = S i j := fun i j a1 a2 a3 => by rw [fr2 i j (by omega) a2, f1 i a3]
      have k2 : zv_K S2 45 = zv_M S 402 (31 * x) := by
        rw [← j1, ← k1]; exact zv_Kc (fun i j a1 a2 => fr2 i j (by omega) (by omega))
      unfold m_Model_goBack
      rw [zq_in_t (nI_pos' (by omega)) (by rw [show (1 : Int32) = nI 1 from rfl]; exact nI_le (by omega) (by omega))]
      simp only [zz_c, zz_some, zz_i, zz_g, zz_b, gx, true_and, cx]
      rw [fr 403 x (by omega) (by omega) (by omega), ← i1]
      refine ⟨fun q => absurd q (by decide), fun _ => ⟨fun q => absurd q hk, fun _ => ?_⟩⟩
      rw [show (31 : Int32) = nI 31 from rfl, pk_mul, show (0 : Int32) = nI 0 from rfl]
      refine zz_mono (zq_copy (a := 402) (n0 := 62) (b := 400) (n2 := 31) (x := 31 * x) (y := 0) (by omega) (by omega) (by omega) (by omega) (by omega)) (fun r S3 ⟨f3, z3⟩ => ?_)
      have z3' : ∀ z, z < 31 → S3 400 z = S 402 (31 * x + z) := fun z hz => by
        rw [z3, if_pos (by omega), fr 402 _ (by omega) (by omega) (by omega)]; congr 1
      refine ⟨e, wc, M, ?_⟩
      rw [show nI 0 = 0 from rfl]
      generalize hS4 : sy_up S3 392 26 0 = S4
      have fr4 : ∀ i j, ¬ (i = 392 ∧ j = 26) → S4 i j = S3 i j := fun i j a1 => by
        rw [← hS4]; simp only [zz_up]; grind
      have q392 : S4 392 26 = 0 := by rw [← hS4]; simp only [zz_up]; rfl
      have fr5 : ∀ i j, i ≠ 55 → ¬ (i = 0 ∧ j = 15) → (i < 45 ∨ 49 < i) → ¬ (i = 392 ∧ j = 26) → i ≠ 400 → S4 i j = S i j := fun i j a1 a2 a3 a4 a5 => by rw [fr4 i j a4, f3 i (by omega), fr i j a1 a2 a3]
      have e1 : zv_K S4 45 = zv_M S 402 (31 * x) := by rw [← k2]; exact zv_Kc (fun y j a1 a2 => by rw [fr4 y j (by omega), f3 y (by omega)])
      have e2 : zv_M S4 400 0 = zv_M S 402 (31 * x) := by
        funext j
        unfold zv_M
        by_cases h6 : j = 6
        · rw [if_pos h6, if_pos h6]
        · rw [if_neg h6, if_neg h6]
          by_cases h31 : j < 31
          · rw [if_pos h31, if_pos h31, fr4 400 _ (by omega), Nat.zero_add, z3' j h31]
          · rw [if_neg h31, if_neg h31]
      obtain ⟨g1, g2, g3, g4, g5, g6, g7, g8, g9⟩ := zi_all_m (show c ≤ c + 100 by omega) gg
      have q : ∀ D : Nat → Nat → Prop, (∀ i j, D i j → i ≠ 55 ∧ ¬ (i = 0 ∧ j = 15) ∧ (i < 45 ∨ 49 < i) ∧ ¬ (i = 392 ∧ j = 26) ∧ i ≠ 400) → zc_eq D S S4 := fun D hd i j d => by
        obtain ⟨a1, a2, a3, a4, a5⟩ := hd i j d
        exact fr5 i j a1 a2 a3 a4 a5
      refine ⟨zi_edge_f (q _ ?_) g1, ⟨by rw [e1, e2], by rw [e2]; exact zv_W_m j2 (by omega)⟩, ⟨?_, ?_⟩, ⟨0, 0, by omega, by omega, ?_, ?_, q392, fun i hi => absurd hi (by omega)⟩, zi_img_f (q _ ?_) g5, zi_text_f (q _ ?_) g6, zi_fault_f (q _ ?_) g7, zi_seen_f (q _ ?_) g8, zi_book_f (q _ ?_) g9⟩
      · intro i j d; unfold zd_edge at d; omega
      · rw [fr4 0 15 (by omega), f3 0 (by omega), q0, fr4 400 6 (by omega), z3' 6 (by omega), j3]
      · rw [fr4 400 6 (by omega), z3' 6 (by omega), ← j3]; exact j4
      · rw [fr4 55 1 (by omega), f3 55 (by omega)]; exact q551
      · rw [fr4 55 2 (by omega), f3 55 (by omega)]; exact q552
      · intro i j d; unfold zd_img at d; omega
      · intro i j d; unfold zd_text at d; omega
      · intro i j d; unfold zd_fault at d; omega
      · intro i j d; unfold zd_seen at d; omega
      · intro i j d; unfold zd_book at d; omega
  · refine zo_two (r := -1000000001) (S1 := S) (S2 := S) ?_ ?_ gs
    · unfold m_Top_goBack; rw [zp_isImage_f hx]; rfl
    · unfold m_Model_goBack; rw [zq_in_f (by grind)]; rfl
/-! ===== a pillar ===== -/
def zs_it (e : Nat → Nat → Int32) (wc M : Nat) (less : Int32) (v : Nat → Int32) : Nat → (Nat → Int32)
  | 0 => v
  | n + 1 => zs_pass e wc M less (zs_it e wc M less v n)
theorem zs_it_W {e : Nat → Nat → Int32} {wc M c : Nat} {less : Int32} {v : Nat → Int32} (hw : ze_W e wc M) (hl : 0 ≤ less ∧ less ≤ 30) (h : zv_W v M c) : ∀ n, zv_W (zs_it e wc M less v n) M (c + n)
  | 0 => h
  | n + 1 => zs_pass_W hw (zs_it_W hw hl h n) hl
theorem zp_harmBehind {S : sy_St} {e : Nat → Nat → Int32} {wc M c N : Nat} {less : Int32} {v : Nat → Int32} (he : ze_C S e wc M) (hw : ze_W e wc M) (hl : 0 ≤ less ∧ less ≤ 30) (hv : zv_K S 45 = v) (hW : zv_W v M c) (hc : c < 1000000) (hN : N < 1000) : zz_wp (m_Top_harmBehind (nI N) less S) (fun r S1 => r = zs_it e wc M less v N 2 ∧ zf_o S S1 50 54) := by
  unfold m_Top_harmBehind
  rw [zz_c]
  refine zz_mono (zp_copyFrom (k := 50) (a := 45) (by omega)) (fun r S1 ⟨f1, k1⟩ => ?_)
  refine zz_loopX (ap := fun (k : zt_3) (t : Nat × sy_St) => k (nI N) less (nI t.1) t.2) (fun t => N - t.1) (fun t => t.1 ≤ N ∧ zf_o S t.2 50 54 ∧ zv_K t.2 50 = zs_it e wc M less v t.1) ?_ sy_F (0, S1) (zz_F (by simp only; omega)) ⟨by simp only; omega, f1, by rw [k1, hv]; rfl⟩
  rintro k ⟨i, S2⟩ ⟨hi, hf, hz⟩ hk
  simp only at hi hf hz hk ⊢
  unfold m_Top_harmBehind_B13
  rw [zz_i]
  refine ⟨fun hle => ?_, fun hnle => ?_⟩
  · have : i = N := by
      rcases Nat.lt_or_ge i N with q | q
      · exact absurd hle (nI_ge q (by omega))
      · omega
    subst this
    rw [zz_some]
    exact ⟨by rw [← hz]; rfl, hf⟩
  · have hi3 : i < N := by
      rcases Nat.lt_or_ge i N with q | q
      · exact q
      · exact absurd (nI_le q (by omega)) hnle
    rw [zz_c]
    refine zz_mono (zp_passHour (k := 50) (c := c + i) (by omega) (zf_eC hf (by omega) he) hw (by rw [hz]; exact zs_it_W hw hl hW i) (by omega)) (fun r S3 ⟨f3, k3⟩ => ?_)
    simp only [zz_b, nI_1]
    refine hk (i + 1, S3) ⟨by simp only; omega, zf_trans hf f3, by simp only; rw [k3, hz]; rfl⟩ (by simp only; omega)
theorem zo_scr {S S2 : sy_St} {e : Nat → Nat → Int32} {wc M c : Nat} (g : zi_all S e wc M c) (h : ∀ i, ¬ ((10 ≤ i ∧ i ≤ 34) ∨ (50 ≤ i ∧ i ≤ 54) ∨ i = 401 ∨ (370 ≤ i ∧ i ≤ 373) ∨ i = 375 ∨ i = 376 ∨ (378 ≤ i ∧ i ≤ 383) ∨ (388 ≤ i ∧ i ≤ 391) ∨ (407 ≤ i ∧ i ≤ 409)) → S2 i = S i) : zi_Inv S2 (c + 100) := by
  refine ⟨e, wc, M, zi_all_m (by omega) (zi_all_f (fun i j d => ?_) g)⟩
  have : ¬ ((10 ≤ i ∧ i ≤ 34) ∨ (50 ≤ i ∧ i ≤ 54) ∨ i = 401 ∨ (370 ≤ i ∧ i ≤ 373) ∨ i = 375 ∨ i = 376 ∨ (378 ≤ i ∧ i ≤ 383) ∨ (388 ≤ i ∧ i ≤ 391) ∨ (407 ≤ i ∧ i ≤ 409)) := by
    unfold zd_all zd_edge zd_now zd_seed zd_past zd_img zd_text zd_fault zd_seen zd_book at d
    omega
  rw [h i this]
theorem zq_copyV {S : sy_St} {a b : Nat} (hab : a ≠ b) : zz_wp (m_Model_copy a 31 b 31 0 0 S) (fun _ S1 => zf_o S S1 b b ∧ zv_M S1 b 0 = zv_M S a 0) := by
  refine zz_mono (zq_copy (a := a) (n0 := 31) (b := b) (n2 := 31) (x := 0) (y := 0) hab (by omega) (by omega) (by omega) (by omega)) (fun r S1 ⟨f, z⟩ => ⟨f, ?_⟩)
  funext j
  unfold zv_M
  by_cases h6 : j = 6
  · rw [if_pos h6, if_pos h6]
  · rw [if_neg h6, if_neg h6]
    by_cases h31 : j < 31
    · rw [if_pos h31, if_pos h31, z, if_pos (by omega)]; congr 1; omega
    · rw [if_neg h31, if_neg h31]
theorem zo_pillar (p n : Int32) : zo_ok (m_Top_pillar p n) (m_Model_pillar p n) := by
  intro S e wc M c hc g
  have gs := zo_same g
  have gg := g
  obtain ⟨⟨hw, hm, hcl⟩, hnow, -⟩ := g
  by_cases hp : 1 ≤ p ∧ p ≤ 30
  · by_cases hn : 1 ≤ n ∧ n ≤ 40
    · by_cases hh : 0 < wc ∧ 0 < M
      · obtain ⟨N, hN, rfl⟩ := nI_of2 (M := 40) (n := 40) rfl (show ¬ n < 0 by grind) hn.2
        have hp2 : 0 ≤ p ∧ p ≤ 30 := by grind
        have W := hnow.2
        unfold m_Top_pillar
        simp only [zz_i, zz_c]
        refine ⟨fun q => absurd q (by grind), fun _ => ⟨fun q => absurd q (by grind), fun _ => ⟨fun q => absurd q (by grind), fun _ => ⟨fun _ => ?_, fun q => absurd hn.2 q⟩⟩⟩⟩
        rw [zp_isWhole hcl hw, if_pos hh, zz_some]
        refine ⟨fun q => absurd q (by decide), fun _ => ?_⟩
        refine zz_mono (zp_harmBehind (c := c) (less := 0) hcl hw (by decide) hnow.1 W hc (by omega)) (fun r1 S1 ⟨e1, f1⟩ => ?_)
        refine zz_mono (zp_harmBehind (c := c) (less := p) (zf_eC f1 (by omega) hcl) hw hp2 (by rw [zf_K f1 (by omega), hnow.1]) W hc (by omega)) (fun r2 S2 ⟨e2, f2⟩ => ?_)
        rw [zz_some, e1, e2]
        have f12 := zf_trans f1 f2
        have hm2 : ze_M S2 e wc M := zf_eM f12 (by omega) hm
        have v2 : zv_M S2 400 0 = zv_M S 400 0 := zf_M f12 (by omega)
        unfold m_Model_pillar
        rw [zq_in_t hp.1 hp.2]
        simp only [zz_c, zz_some, zz_i]
        rw [zq_in_t hn.1 hn.2, zz_some, zq_isHere hm2 hw, if_pos hh, zz_some]
        refine ⟨fun q => absurd q (by decide), fun _ => ⟨fun q => absurd q (by decide), fun _ => ⟨fun q => absurd q (by decide), fun _ => ?_⟩⟩⟩
        refine zz_mono (zq_copyV (a := 400) (b := 401) (by omega)) (fun r3 S3 ⟨f3, k3⟩ => ?_)
        refine zz_loopX (ap := fun (k : zt_3) (t : Nat × sy_St) => k p (nI N) (nI t.1) t.2) (fun t => N - t.1) (fun t => t.1 ≤ N ∧ zf_o S2 t.2 401 401 ∧ zv_M t.2 401 0 = zs_it e wc M 0 (zv_M S 400 0) t.1) ?_ sy_F (0, S3) (zz_F (by simp only; omega)) ⟨by simp only; omega, f3, by rw [k3, v2]; rfl⟩
        rintro k ⟨i, S4⟩ ⟨hi, hf, hz⟩ hk
        simp only at hi hf hz hk ⊢
        have hm4 : ze_M S4 e wc M := zd_eM (fun x j d => by rw [hf x (by omega)]) hm2
        unfold m_Model_pillar_B48
        rw [zz_i]
        refine ⟨fun hle => ?_, fun hnle => ?_⟩
        · have : i = N := by
            rcases Nat.lt_or_ge i N with q | q
            · exact absurd hle (nI_ge q (by omega))
            · omega
          subst this
          rw [zz_b, zz_c, show (2 : Int32).toNatClampNeg = 2 from rfl, show S4 401 2 = zv_M S4 401 0 2 from rfl, hz]
          refine zz_mono (zq_copyV (a := 400) (b := 401) (by omega)) (fun r5 S5 ⟨f5, k5⟩ => ?_)
          refine zz_loopX (ap := fun (k : zt_4) (t : Nat × sy_St) => k p (nI i) (zs_it e wc M 0 (zv_M S 400 0) i 2) (nI t.1) t.2) (fun t => i - t.1) (fun t => t.1 ≤ i ∧ zf_o S2 t.2 401 401 ∧ zv_M t.2 401 0 = zs_it e wc M p (zv_M S 400 0) t.1) ?_ sy_F (0, S5) (zz_F (by simp only; omega)) ⟨by simp only; omega, zf_trans hf f5, by rw [k5, zf_M hf (by omega), v2]; rfl⟩
          rintro k2 ⟨i2, S6⟩ ⟨hi2, hf2, hz2⟩ hk2
          simp only at hi2 hf2 hz2 hk2 ⊢
          have hm6 : ze_M S6 e wc M := zd_eM (fun x j d => by rw [hf2 x (by omega)]) hm2
          unfold m_Model_pillar_B91
          rw [zz_i]
          refine ⟨fun hle2 => ?_, fun hnle2 => ?_⟩
          · have : i2 = i := by
              rcases Nat.lt_or_ge i2 i with q | q
              · exact absurd hle2 (nI_ge q (by omega))
              · omega
            subst this
            rw [zz_some, show (2 : Int32).toNatClampNeg = 2 from rfl, show S6 401 2 = zv_M S6 401 0 2 from rfl, hz2]
            exact ⟨rfl, zo_scr gg (fun x hx => by rw [hf2 x (by omega), f12 x (by omega)])⟩
          · have hi3 : i2 < i := by
              rcases Nat.lt_or_ge i2 i with q | q
              · exact q
              · exact absurd (nI_le q (by omega)) hnle2
            rw [zz_c]
            refine zz_mono (zq_pass (a := 401) (c := c + i2) (by omega) hm6 hw hh.2 (by rw [hz2]; exact zs_it_W hw hp2 W i2) (by omega)) (fun r S7 ⟨f7, k7, _⟩ => ?_)
            simp only [zz_b, nI_1]
            refine hk2 (i2 + 1, S7) ⟨by simp only; omega, zf_trans hf2 f7, by simp only; rw [k7, hz2]; rfl⟩ (by simp only; omega)
        · have hi3 : i < N := by
            rcases Nat.lt_or_ge i N with q | q
            · exact q
            · exact absurd (nI_le q (by omega)) hnle
          rw [zz_c]
          refine zz_mono (zq_pass (a := 401) (c := c + i) (by omega) hm4 hw hh.2 (by rw [hz]; exact zs_it_W hw (by decide) W i) (by omega)) (fun r S7 ⟨f7, k7, _⟩ => ?_)
          simp only [zz_b, nI_1]
          refine hk (i + 1, S7) ⟨by simp only; omega, zf_trans hf f7, by simp only; rw [k7, hz]; rfl⟩ (by simp only; omega)
      · refine zo_two (r := -1000000003) (S1 := S) (S2 := S) ?_ ?_ gs
        · unfold m_Top_pillar
          rw [if_neg (by grind), if_neg (by grind), if_neg (by grind), if_pos hn.2, zp_isWhole hcl hw, if_neg hh]; rfl
        · unfold m_Model_pillar
          rw [zq_in_t hp.1 hp.2]
          simp only [sy_c, zq_in_t hn.1 hn.2, zq_isHere hm hw, if_neg hh]; rfl
    · refine zo_two (r := -1000000002) (S1 := S) (S2 := S) ?_ ?_ gs
      · unfold m_Top_pillar
        rw [if_neg (by grind), if_neg (by grind)]
        by_cases q : n < 1
        · rw [if_pos q]
        · rw [if_neg q, if_neg (by grind)]
      · unfold m_Model_pillar
        rw [zq_in_t hp.1 hp.2]
        simp only [sy_c, zq_in_f hn]; rfl
  · refine zo_two (r := -1000000002) (S1 := S) (S2 := S) ?_ ?_ gs
    · unfold m_Top_pillar
      by_cases q : p < 1
      · rw [if_pos q]
      · rw [if_neg q, if_pos (by grind)]
    · unfold m_Model_pillar; rw [zq_in_f hp]; rfl
