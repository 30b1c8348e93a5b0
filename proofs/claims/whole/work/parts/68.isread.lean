/-! ===== the reference: a whole text ===== -/
theorem zx_V0 : zx_V zx_D0 := ⟨by decide, by decide, fun i hi => absurd hi (Nat.not_lt_zero _), fun p hp => absurd hp (Nat.not_lt_zero _)⟩
theorem zq_isRead {T : sy_St} {t : Nat → Int32} {n : Nat} (hn : n ≤ 250) (ht : ∀ i, i < n → 0 ≤ t i) (h : zx_mt T t n) (h6 : T 392 6 = -1) : zz_wp (m_Model_isRead T) (fun r T1 => zx_fm T T1 ∧ ((∃ f, zx_text t n (n + 1) 0 zx_D0 = .inl f ∧ r = 0 ∧ zx_Y T1 f) ∨ ∃ D, zx_text t n (n + 1) 0 zx_D0 = .inr D ∧ r = 1 ∧ T1 392 6 = -1 ∧ zx_V D ∧ zx_md T1 (decide (0 < D.1)) D)) := by
  unfold m_Model_isRead
  simp only [zz_b]
  obtain ⟨U, hU⟩ : ∃ U, U = sy_up (sy_up (sy_up (sy_up (sy_up (sy_up (sy_up T 392 2 0) 392 8 0) 392 10 0) 392 13 9) 392 14 0) 392 15 0) 392 16 0 := ⟨_, rfl⟩
  rw [← hU]
  have e392 : ∀ j, U 392 j = if j = 16 then 0 else if j = 15 then 0 else if j = 14 then 0 else if j = 13 then 9 else if j = 10 then 0 else if j = 8 then 0 else if j = 2 then 0 else T 392 j := fun j => by
    rw [hU, zz_upo, zz_upo, zz_upo, zz_upo, zz_upo, zz_upo, zz_upo]
  have eo : ∀ i, i ≠ 392 → U i = T i := fun i a => by rw [hU, zz_up1 a, zz_up1 a, zz_up1 a, zz_up1 a, zz_up1 a, zz_up1 a, zz_up1 a]
  have fU : zx_fm T U := ⟨fun i a _ _ _ => eo i a, fun j hj => by
    rw [e392, if_neg (by omega), if_neg (by omega), if_neg (by omega), if_neg (by omega), if_neg (by omega), if_neg (by omega), if_neg (by omega)]⟩
  obtain ⟨RES, hRES⟩ : ∃ RES, RES = zx_text t n (n + 1) 0 zx_D0 := ⟨_, rfl⟩
  rw [← hRES]
  refine zz_loopX (ap := fun (k : zt_1) (u : Nat × sy_St) => k (nI u.1) u.2) (fun u => 3 - u.1) (fun u => u.1 ≤ 3 ∧ zx_fm T u.2 ∧ (∀ i, i ≠ 396 → u.2 i = U i) ∧ ∀ i, i < u.1 → u.2 396 i = zx_gf 3 5 7 i) ?_ sy_F (0, U) (zz_F (by simp only; omega)) ⟨by simp only; omega, fU, fun _ _ => rfl, fun i hi => absurd hi (Nat.not_lt_zero _)⟩
  rintro k ⟨i, V⟩ ⟨hi, hfr, hV, hg⟩ hk
  simp only at hi hfr hV hg hk ⊢
  unfold m_Model_isRead_B38
  rw [zz_i]
  refine ⟨fun hle => ?_, fun hnle => ?_⟩
  · have hi3 : i = 3 := by
      rcases Nat.lt_or_ge i 3 with q | q
      · exact absurd hle (nI_ge (b := 3) q (by omega))
      · omega
    subst hi3
    have v392 : V 392 = U 392 := hV 392 (by omega)
    have hM : zx_M V t n 0 (decide (0 < zx_D0.1)) zx_D0 := ⟨⟨by rw [v392, e392]; exact h.1, fun i hi => by rw [hV 393 (by omega), eo 393 (by omega)]; exact h.2 i hi⟩, by rw [v392, e392]; exact h6, Nat.zero_le _, by rw [v392, e392]; rfl, by rw [v392, e392]; rfl, fun i hi => absurd hi (Nat.not_lt_zero _), by rw [v392, e392]; rfl, fun i hi => absurd hi (Nat.not_lt_zero _), by rw [v392, e392]; rfl, by rw [v392, e392]; rfl, hg, by rw [v392, e392]; rfl, by rw [v392, e392]; rfl⟩
    refine zz_loopX (ap := fun (k : zt_1) (u : Int32 × Nat × sy_St) => k u.1 u.2.2) (fun u => u.2.1) (fun u => zx_fm T u.2.2 ∧ ((u.1 = 1 ∧ ∃ f p D, u.2.1 = n - p + 1 ∧ n - p < f ∧ zx_M u.2.2 t n p (decide (0 < D.1)) D ∧ zx_V D ∧ zx_text t n f p D = RES) ∨ (u.1 = 0 ∧ ((∃ f, RES = .inl f ∧ zx_Y u.2.2 f) ∨ ∃ D, RES = .inr D ∧ u.2.2 392 6 = -1 ∧ zx_V D ∧ zx_md u.2.2 (decide (0 < D.1)) D)))) ?_ sy_F (1, n - 0 + 1, V) (zz_F (by simp only; omega)) ⟨hfr, Or.inl ⟨rfl, n + 1, 0, zx_D0, rfl, by omega, hM, zx_V0, hRES.symm⟩⟩
    rintro kk ⟨more, mu, W⟩ ⟨hfW, hI⟩ hkk
    simp only at hfW hI hkk ⊢
    unfold m_Model_isRead_B62
    rcases hI with ⟨hm, f, p, D, hmu, hfp, hM, hVD, hR⟩ | ⟨hm, hE⟩
    · rw [if_neg (by rw [hm]; decide), zz_c]
      have hp := hM.2.2.1
      obtain ⟨f, rfl⟩ : ∃ g, f = g + 1 := ⟨f - 1, by omega⟩
      rw [zx_text] at hR
      obtain ⟨s1, s2, -⟩ := zx_sk_b (t := t) hp
      refine zz_mono (zq_nextToken hn hM) (fun _ X ⟨a, x3, hX⟩ => ?_)
      have fX := zx_fm_t hfW (zx_ta_fm a)
      generalize zx_sk t n p = s at *
      have x14 : X 392 14 = (if (decide (0 < D.1)) = true then 1 else 0) := by rw [a 392 14 (by omega)]; exact hM.2.2.2.2.2.2.2.2.1
      by_cases hsn : s < n
      · rw [if_pos hsn] at hR
        have hc2 : ¬ X 392 4 = -2 := by
          rcases hX with ⟨c1, -⟩ | ⟨c1, cd, c4, -⟩ | ⟨c1, cd, c4, -⟩
          · omega
          · intro q
            rw [c4] at q
            by_cases z : zx_fg t n s - s ≤ 3
            · rw [if_pos z] at q; exact absurd q (by decide)
            · rw [if_neg z] at q; exact absurd q (by decide)
          · intro q
            have h0 := ht s c1
            rw [← c4, q] at h0; exact absurd h0 (by decide)
        have htk : ∀ c : Int32, 57 < c → (X 392 4 = c ↔ t s = c) := fun c hc => by
          rcases hX with ⟨c1, -⟩ | ⟨c1, cd, c4, -⟩ | ⟨c1, cd, c4, -⟩
          · omega
          · constructor
            · intro q
              rw [c4] at q
              by_cases z : zx_fg t n s - s ≤ 3
              · rw [if_pos z] at q; rw [← q] at hc; exact absurd hc (by decide)
              · rw [if_neg z] at q; rw [← q] at hc; exact absurd hc (by decide)
            · intro q
              unfold zx_dg at cd
              rw [q] at cd
              exact absurd (of_decide_eq_true cd).2 (by grind)
          · rw [c4]
        have hMX : ∀ c : Int32, 57 < c → t s = c → zx_M X t n (s + 1) (decide (0 < D.1)) D := fun c hc hts => by
          rcases hX with ⟨c1, -⟩ | ⟨c1, cd, c4, -⟩ | ⟨c1, cd, c4, c2⟩
          · omega
          · unfold zx_dg at cd
            rw [hts] at cd
            exact absurd (of_decide_eq_true cd).2 (by grind)
          · exact zx_M_at hM a (by omega) c2
        -- a line is through
        have hln : ∀ {o : sy_R}, zz_wp o (fun r T1 => zx_fm X T1 ∧ zx_lin r T1 t n (zx_clause t n s D)) → zz_wp (sy_c o fun r25 S24 => kk r25 S24) (fun r T1 => zx_fm T T1 ∧ ((∃ f, RES = .inl f ∧ r = 0 ∧ zx_Y T1 f) ∨ ∃ D, RES = .inr D ∧ r = 1 ∧ T1 392 6 = -1 ∧ zx_V D ∧ zx_md T1 (decide (0 < D.1)) D)) := by
          intro o ho
          rw [zz_c]
          refine zz_mono ho (fun r T1 ⟨f1, hL⟩ => ?_)
          rcases hL with ⟨g, e1, r0, y⟩ | ⟨g, e1, r1, M1⟩
          · rw [e1, zx_bind_l] at hR
            exact hkk (r, 0, T1) ⟨zx_fm_t fX f1, Or.inr ⟨r0, Or.inl ⟨g, hR.symm, y⟩⟩⟩ (by simp only; omega)
          · rw [e1, zx_bind_r] at hR
            obtain ⟨q1, q2, q3⟩ := zx_clause_V hsn hVD e1
            have q4 := zx_clause_w hsn e1
            refine hkk (r, n - g.1 + 1, T1) ⟨zx_fm_t fX f1, Or.inl ⟨r1, f, g.1, g.2, rfl, by omega, ?_, q3, hR⟩⟩ (by simp only; omega)
            simp only
            rw [decide_eq_true q4]
            exact M1
        have hbad : zx_clause t n s D = .inl (1, s) → zz_wp (sy_c (m_Model_fails 1 X) fun r25 S24 => kk r25 S24) (fun r T1 => zx_fm T T1 ∧ ((∃ f, RES = .inl f ∧ r = 0 ∧ zx_Y T1 f) ∨ ∃ D, RES = .inr D ∧ r = 1 ∧ T1 392 6 = -1 ∧ zx_V D ∧ zx_md T1 (decide (0 < D.1)) D)) := fun e1 =>
          hln (zz_mono (zq_fails (k := 1) x3 (by omega)) (fun r V ⟨r0, f, y⟩ => ⟨f, Or.inl ⟨_, e1, r0, y⟩⟩))
        obtain ⟨wn, wf, pn, pf, gt, gf, ft, fr⟩ := D
        simp only at x14
        rw [if_neg hc2]
        have k119 := htk 119 (by decide)
        have k112 := htk 112 (by decide)
        have k116 := htk 116 (by decide)
        have k102 := htk 102 (by decide)
        have hpn6 : pn ≤ 6 := hVD.2.1
        by_cases c1 : t s = 119
        · rw [if_pos (k119.mpr c1)]
          refine hln ?_
          have := zq_isWeightLine hn ht hsn x3 (hMX 119 (by decide) c1)
          unfold zx_clause
          dsimp only
          rw [if_pos c1]
          exact this
        · rw [if_neg (fun q => c1 (k119.mp q))]
          by_cases c2 : wn = 0
          · have e14 : X 392 14 = 0 := by rw [x14, c2]; rfl
            rw [if_pos e14]
            unfold m_Model_isRead_J125 m_Model_isRead_J149
            rw [if_pos e14, if_pos e14]
            refine hbad ?_
            unfold zx_clause
            dsimp only
            rw [if_neg c1, if_pos c2]
          · have hd : (decide (0 < wn)) = true := decide_eq_true (by omega)
            have e14 : ¬ X 392 14 = 0 := by rw [x14, if_pos hd]; decide
            rw [hd] at hMX
            rw [if_neg e14]
            by_cases c3 : t s = 112
            · rw [if_pos (k112.mpr c3)]
              refine hln ?_
              have := zq_isPersonLine hn ht hsn hpn6 x3 (hMX 112 (by decide) c3)
              unfold zx_clause
              dsimp only
              rw [if_neg c1, if_neg c2, if_pos c3]
              exact this
            · rw [if_neg (fun q => c3 (k112.mp q))]
              unfold m_Model_isRead_J125
              rw [if_neg e14]
              by_cases c4 : t s = 116
              · rw [if_pos (k116.mpr c4)]
                refine hln ?_
                have := zq_isWordLine hn ht hsn x3 (hMX 116 (by decide) c4)
                unfold zx_clause
                dsimp only
                rw [if_neg c1, if_neg c2, if_neg c3, if_pos c4]
                exact this
              · rw [if_neg (fun q => c4 (k116.mp q))]
                unfold m_Model_isRead_J149
                rw [if_neg e14]
                by_cases c5 : t s = 102
                · rw [if_pos (k102.mpr c5)]
                  refine hln ?_
                  have := zq_isFruitLine hn ht hsn x3 (hMX 102 (by decide) c5)
                  unfold zx_clause
                  dsimp only
                  rw [if_neg c1, if_neg c2, if_neg c3, if_neg c4, if_pos c5]
                  exact this
                · rw [if_neg (fun q => c5 (k102.mp q))]
                  refine hbad ?_
                  unfold zx_clause
                  dsimp only
                  rw [if_neg c1, if_neg c2, if_neg c3, if_neg c4, if_neg c5]
      · rw [if_neg hsn] at hR
        rcases hX with ⟨c1, c4, c2⟩ | ⟨c1, -⟩ | ⟨c1, -⟩
        · rw [if_pos c4]
          have hMX := zx_M_at hM a (Nat.le_refl n) c2
          exact hkk (0, 0, X) ⟨fX, Or.inr ⟨rfl, Or.inr ⟨D, hR.symm, hMX.2.1, hVD, hMX.2.2.2.2⟩⟩⟩ (by simp only; omega)
        · omega
        · omega
    · rw [if_pos hm]
      rcases hE with ⟨f, e1, y⟩ | ⟨D, e1, e6, v1, m1⟩
      · rw [if_neg (by rw [y.2.1]; exact nI_ne1 (by have := y.2.2; omega)), zz_some]
        exact ⟨hfW, Or.inl ⟨f, e1, rfl, y⟩⟩
      · rw [if_pos e6, zz_some]
        exact ⟨hfW, Or.inr ⟨D, e1, rfl, e6, v1, m1⟩⟩
  · have hi2 : i < 3 := nI_lt_of (n := 3) hnle (by omega) (by omega)
    rw [zz_g, zz_b, zz_b, nI_1]
    refine ⟨zz_in (by omega) (by omega), ?_⟩
    simp only [zz_cl (show i < 2147483648 by omega)]
    refine hk (i + 1, sy_up V 396 i (3 + 2 * nI i)) ⟨by simp only; omega, zx_fm_t hfr (zx_fm_a (by omega)), fun x hx => by simp only; rw [zz_up1 hx, hV x hx], fun x hx => ?_⟩ (by simp only; omega)
    simp only at hx ⊢
    rw [zz_upo]
    by_cases q : x = i
    · rw [if_pos q, q]
      have : i = 0 ∨ i = 1 ∨ i = 2 := by omega
      rcases this with rfl | rfl | rfl <;> decide
    · rw [if_neg q]; exact hg x (by omega)
