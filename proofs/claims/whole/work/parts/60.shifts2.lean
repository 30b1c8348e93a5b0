theorem zo_sinks (n m : Int32) : zo_ok (m_Top_sinks n m) (m_Model_sinks n m) := by
  intro S e wc M c hc g
  have gs := zo_same g
  have gg := g
  obtain ⟨⟨hw, hm, hcl⟩, hnow, -⟩ := g
  by_cases hr : (1 ≤ n ∧ n ≤ 5) ∧ 0 ≤ m ∧ m ≤ 99
  · by_cases hh : 0 < wc ∧ 0 < M
    · obtain ⟨n, hn, rfl⟩ := nI_of2 (M := 5) (n := 5) rfl (show ¬ n < 0 by have := hr.1.1; grind) hr.1.2
      have h6 := hw.2.1
      have hN := zs_powM M (by omega) n (by omega)
      unfold m_Top_sinks
      rw [zz_c, zp_isNoTrial, if_pos hr, zz_some, zz_i]
      refine ⟨fun _ => ?_, fun h => absurd rfl h⟩
      rw [zz_c, zp_isWhole hcl hw, if_pos hh, zz_some, zz_i]
      refine ⟨fun q => absurd q (by decide), fun _ => ?_⟩
      rw [zz_c]
      refine zz_mono (zp_find_h (n := n) (lim := m) (v := zv_M S 400 0) hcl hw hh.2 hn hnow.2 hc hnow.1) (fun _ S1 ⟨f1, f4, _, x, fx, fD⟩ => ?_)
      have m1 : ze_M S1 e wc M := zd_eM (fun i j d => by rw [f1 i (by omega) (by omega) (by omega) (by omega) (by omega)]) hm
      have hv1 : zv_M S1 400 0 = zv_M S 400 0 := zv_Mc (fun j _ _ => by rw [f1 400 (by omega) (by omega) (by omega) (by omega) (by omega)])
      have hxn := fD.1
      have hfin : ∀ T, zr_m S1 T → zi_Inv T (c + 100) := fun T hf => zo_scr gg (fun i hi => by rw [hf i (by omega) (by omega) (by omega), f1 i (by omega) (by omega) (by omega) (by omega) (by omega)])
      have hR : ∀ r : Int32, r = (if x = n then -1 else nI x) → zz_wp (m_Model_sinks (nI n) m S1) (fun r2 S2 => r2 = r ∧ zi_Inv S2 (c + 100)) := by
        intro r r1
        unfold m_Model_sinks
        rw [zz_c, zq_in_t hr.1.1 hr.1.2, zz_some, zz_i]
        refine ⟨fun q => absurd q (by decide), fun _ => ?_⟩
        rw [zz_c, zq_in_t hr.2.1 hr.2.2, zz_some, zz_i]
        refine ⟨fun q => absurd q (by decide), fun _ => ?_⟩
        rw [zz_c, zq_isHere m1 hw, if_pos hh, zz_some, zz_i]
        refine ⟨fun q => absurd q (by decide), fun _ => ?_⟩
        refine zz_loopX (ap := fun (k : zt_4) (u : Nat × Nat × sy_St) => k (nI n) m (nI u.2.1) (nI u.1) u.2.2) (fun u => M ^ n - u.1) (fun u => u.1 ≤ M ^ n ∧ zr_m S1 u.2.2 ∧ zu_D (zu_U e wc M (zv_M S 400 0) n m) n u.1 0 u.2.1) ?_ sy_F (0, 0, S1) (zz_F (by simp only; omega)) ⟨by simp only; omega, fun _ _ _ _ => rfl, Nat.zero_le _, Nat.le_refl _, Or.inl (Nat.le_refl _), fun y g hy => absurd hy (Nat.not_lt_zero _)⟩
        rintro k ⟨y, z, T⟩ ⟨hy, hf, hD⟩ hk
        simp only at hy hf hD hk ⊢
        have hm' : ze_M T e wc M := zr_m_e hf m1
        have hzn := hD.1
        unfold m_Model_sinks_B37
        rw [zz_c, hm'.2.1, zq_power h6 hn, zz_some, zz_i]
        refine ⟨fun hle2 => ?_, fun hnle => ?_⟩
        · have hxe : y = M ^ n := nI_eq_of hle2 hy (by omega)
          subst hxe
          have := zu_D_u fD hD
          subst this
          rw [zz_i, zz_some, zz_some]
          refine ⟨fun h => ⟨?_, hfin T hf⟩, fun h => ⟨?_, hfin T hf⟩⟩
          · rw [r1, if_pos ((nI_eq (by omega) (by omega)).mp h)]
          · rw [r1, if_neg (fun q => h (by rw [q]))]
        · have hx2 := nI_lt_of hnle (by omega) (by omega)
          rw [zz_c]
          refine zz_mono (zq_lay (c := y) (n := n) hm'.2.1 h6 hh.2 hn (by omega)) (fun _ U1 ⟨g1, d1⟩ => ?_)
          have hf1 := zr_m_o (a := 407) (by omega) hf g1
          rw [zz_c]
          refine zz_mono (zq_goesCode (x := y) (v := zv_M S 400 0) (zr_m_e hf1 m1) hw hh.2 (by rw [zr_m_M hf1, hv1]) hnow.2 hc hn d1) (fun r U2 ⟨g2, w, e1, w1, w2, w3⟩ => ?_)
          subst e1
          have hf2 := zr_m_o (a := 401) (by omega) hf1 g2
          obtain ⟨q1, q2, q3, q4⟩ := hD
          rw [zz_i]
          refine ⟨fun h => ?_, fun h => ?_⟩
          · have hle := (nI_leI (by omega) (by omega)).mp h
            rw [zz_b, nI_1]
            refine hk (y + 1, z, U2) ⟨by simp only; omega, hf2, q1, q2, ?_, fun a b a1 a2 a3 => ?_⟩ (by simp only; omega)
            · rcases q3 with q | ⟨a, a1, a2⟩
              · exact Or.inl q
              · exact Or.inr ⟨a, by simp only; omega, a2⟩
            · simp only at a1 ⊢
              by_cases q : a = y
              · subst q; have := w3 b a2 a3; omega
              · exact q4 a b (by omega) a2 a3
          · have hlt : z < w := by
              rcases Nat.lt_or_ge z w with q | q
              · exact q
              · exact absurd (nI_le q (by omega)) h
            rw [zz_b, nI_1]
            refine hk (y + 1, w, U2) ⟨by simp only; omega, hf2, w1, Nat.zero_le _, Or.inr ⟨y, by simp only; omega, w2⟩, fun a b a1 a2 a3 => ?_⟩ (by simp only; omega)
            simp only at a1 ⊢
            by_cases q : a = y
            · subst q; exact w3 b a2 a3
            · have := q4 a b (by omega) a2 a3; omega
      unfold m_Shift_firstSunk
      rw [zz_c, f4, fx, zz_i]
      refine ⟨fun h => ?_, fun h => ?_⟩
      · have := (nI_leI (by omega) (by omega)).mp h
        rw [zz_some, zz_some]
        exact hR _ (by rw [if_pos (by omega)])
      · rw [zz_some, zz_some]
        exact hR _ (by rw [if_neg (fun q => h (by rw [q]; exact nI_le (Nat.le_refl _) (by omega)))])
    · refine zo_two (r := -1000000003) (S1 := S) (S2 := S) ?_ ?_ gs
      · unfold m_Top_sinks
        refine zz_det ?_
        rw [zz_c, zp_isNoTrial, if_pos hr, zz_some, zz_i]
        refine ⟨fun _ => ?_, fun q => absurd rfl q⟩
        rw [zz_c, zp_isWhole hcl hw, if_neg hh, zz_some, zz_i]
        refine ⟨fun _ => ?_, fun q => absurd rfl q⟩
        rw [zz_some]
        exact ⟨rfl, rfl⟩
      · unfold m_Model_sinks
        refine zz_det ?_
        rw [zz_c, zq_in_t hr.1.1 hr.1.2, zz_some, zz_i]
        refine ⟨fun q => absurd q (by decide), fun _ => ?_⟩
        rw [zz_c, zq_in_t hr.2.1 hr.2.2, zz_some, zz_i]
        refine ⟨fun q => absurd q (by decide), fun _ => ?_⟩
        rw [zz_c, zq_isHere hm hw, if_neg hh, zz_some, zz_i]
        refine ⟨fun _ => ?_, fun q => absurd rfl q⟩
        rw [zz_some]
        exact ⟨rfl, rfl⟩
  · refine zo_two (r := -1000000002) (S1 := S) (S2 := S) ?_ ?_ gs
    · unfold m_Top_sinks
      refine zz_det ?_
      rw [zz_c, zp_isNoTrial, if_neg hr, zz_some, zz_i]
      refine ⟨fun q => absurd q (by decide), fun _ => ?_⟩
      rw [zz_some]
      exact ⟨rfl, rfl⟩
    · unfold m_Model_sinks
      refine zz_det ?_
      by_cases h1 : 1 ≤ n ∧ n ≤ 5
      · rw [zz_c, zq_in_t h1.1 h1.2, zz_some, zz_i]
        refine ⟨fun q => absurd q (by decide), fun _ => ?_⟩
        rw [zz_c, zq_in_f (fun q => hr ⟨h1, q⟩), zz_some, zz_i]
        refine ⟨fun _ => ?_, fun q => absurd rfl q⟩
        rw [zz_some]
        exact ⟨rfl, rfl⟩
      · rw [zz_c, zq_in_f h1, zz_some, zz_i]
        refine ⟨fun _ => ?_, fun q => absurd rfl q⟩
        rw [zz_some]
        exact ⟨rfl, rfl⟩
theorem zo_shifts (n m i : Int32) : zo_ok (m_Top_shifts n m i) (m_Model_shifts n m i) := by
  intro S e wc M c hc g
  have gs := zo_same g
  have gg := g
  obtain ⟨⟨hw, hm, hcl⟩, hnow, -⟩ := g
  by_cases hr : (1 ≤ n ∧ n ≤ 5) ∧ 0 ≤ m ∧ m ≤ 99
  · by_cases hh : 0 < wc ∧ 0 < M
    · obtain ⟨n, hn, rfl⟩ := nI_of2 (M := 5) (n := 5) rfl (show ¬ n < 0 by have := hr.1.1; grind) hr.1.2
      have h6 := hw.2.1
      have hN := zs_powM M (by omega) n (by omega)
      unfold m_Top_shifts
      rw [zz_c, zp_isNoTrial, if_pos hr, zz_some, zz_i]
      refine ⟨fun _ => ?_, fun h => absurd rfl h⟩
      rw [zz_c, zp_isWhole hcl hw, if_pos hh, zz_some, zz_i]
      refine ⟨fun q => absurd q (by decide), fun _ => ?_⟩
      rw [zz_c]
      refine zz_mono (zp_find_h (n := n) (lim := m) (v := zv_M S 400 0) hcl hw hh.2 hn hnow.2 hc hnow.1) (fun _ S1 ⟨f1, f4, fA, _⟩ => ?_)
      have m1 : ze_M S1 e wc M := zd_eM (fun i j d => by rw [f1 i (by omega) (by omega) (by omega) (by omega) (by omega)]) hm
      have hv1 : zv_M S1 400 0 = zv_M S 400 0 := zv_Mc (fun j _ _ => by rw [f1 400 (by omega) (by omega) (by omega) (by omega) (by omega)])
      have hmo : ∀ x, zs_most (zs_dig M n x) n M ≤ n := fun x => zs_most_le M
      have hfin : ∀ T, zr_m S1 T → zi_Inv T (c + 100) := fun T hf => zo_scr gg (fun i hi => by rw [hf i (by omega) (by omega) (by omega), f1 i (by omega) (by omega) (by omega) (by omega) (by omega)])
      obtain ⟨P, hP⟩ : ∃ P : Nat → Prop, P = fun c => zu_U e wc M (zv_M S 400 0) n m c n := ⟨_, rfl⟩
      obtain ⟨mo, hmo2⟩ : ∃ mo : Nat → Nat, mo = fun x => zs_most (zs_dig M n x) n M := ⟨_, rfl⟩
      rw [← hP, ← hmo2] at fA
      have hmo3 : ∀ x, mo x ≤ n := fun x => by rw [hmo2]; exact hmo x
      have hR : ∀ r : Int32, (zu_none P (M ^ n) → r = -1) → (∀ c0, zu_best P mo (M ^ n) c0 → (i = -1 → r = nI (mo c0)) ∧ (i ≠ -1 → ¬ (0 ≤ i ∧ i < nI n) → r = -1) ∧ ∀ x, x < n → i = nI x → r = nI (zs_dig M n c0 x)) → zz_wp (m_Model_shifts (nI n) m i S1) (fun r2 S2 => r2 = r ∧ zi_Inv S2 (c + 100)) := by
        intro r r1 r2
        unfold m_Model_shifts
        rw [zz_c, zq_in_t hr.1.1 hr.1.2, zz_some, zz_i]
        refine ⟨fun q => absurd q (by decide), fun _ => ?_⟩
        rw [zz_c, zq_in_t hr.2.1 hr.2.2, zz_some, zz_i]
        refine ⟨fun q => absurd q (by decide), fun _ => ?_⟩
        rw [zz_c, zq_isHere m1 hw, if_pos hh, zz_some, zz_i]
        refine ⟨fun q => absurd q (by decide), fun _ => ?_⟩
        refine zz_loopX (ap := fun (k : zt_5) (u : Nat × Int32 × sy_St) => k (nI n) m i u.2.1 (nI u.1) u.2.2) (fun u => M ^ n - u.1) (fun u => u.1 ≤ M ^ n ∧ zr_m S1 u.2.2 ∧ ((u.2.1 = -1 ∧ zu_none P u.1) ∨ ∃ c0, zu_best P mo u.1 c0 ∧ u.2.1 = nI (mo c0) ∧ ∀ x, x < n → u.2.2 408 x = nI (zs_dig M n c0 x))) ?_ sy_F (0, -1, S1) (zz_F (by simp only; omega)) ⟨by simp only; omega, fun _ _ _ _ => rfl, Or.inl ⟨rfl, fun y hy => absurd hy (Nat.not_lt_zero _)⟩⟩
        rintro k ⟨y, z, T⟩ ⟨hy, hf, hB⟩ hk
        simp only at hy hf hB hk ⊢
        have hm' : ze_M T e wc M := zr_m_e hf m1
        unfold m_Model_shifts_B38
        rw [zz_c, hm'.2.1, zq_power h6 hn, zz_some, zz_i]
        refine ⟨fun hle2 => ?_, fun hnle => ?_⟩
        · have hxe : y = M ^ n := nI_eq_of hle2 hy (by omega)
          subst hxe
          rw [zz_i]
          refine ⟨fun hi => ?_, fun hi => ?_⟩
          · rw [zz_some]
            refine ⟨?_, hfin T hf⟩
            rcases hB with ⟨b1, b2⟩ | ⟨c0, b1, b2, b3⟩
            · rw [b1, r1 b2]
            · rw [b2, ((r2 c0 b1).1 hi)]
          · rw [zz_i]
            refine ⟨fun hz => ?_, fun hz => ?_⟩
            · rw [zz_some]
              refine ⟨?_, hfin T hf⟩
              rcases hB with ⟨b1, b2⟩ | ⟨c0, b1, b2, b3⟩
              · rw [r1 b2]
              · rw [hz] at b2; exact absurd b2.symm (nI_ne1 (by have := hmo3 c0; omega))
            · rcases hB with ⟨b1, b2⟩ | ⟨c0, b1, b2, b3⟩
              · exact absurd b1 hz
              rw [zz_c]
              by_cases hin : 0 ≤ i ∧ i < nI n
              · obtain ⟨x, hx, rfl⟩ : ∃ x, x < n ∧ i = nI x := by
                  rcases pk_ix i (n := n) (by omega) with y | y | y
                  · exact absurd y (by have := hin.1; grind)
                  · exact absurd y (by have := hin.2; grind)
                  · exact y
                have hle : nI x ≤ nI n - 1 := by
                  obtain ⟨m, rfl⟩ : ∃ m, n = m + 1 := ⟨n - 1, by omega⟩
                  rw [nI_pred]; exact nI_le (by omega) (by omega)
                rw [zq_in_t hin.1 hle, zz_some, zz_i]
                refine ⟨fun y => absurd y (by decide), fun _ => ?_⟩
                rw [zz_g, zz_some, zz_cl (by omega)]
                exact ⟨zz_in (by omega) (by omega), by rw [b3 x hx, ((r2 c0 b1).2.2 x hx rfl)], hfin T hf⟩
              · have hin2 : ¬ (0 ≤ i ∧ i ≤ nI n - 1) := by
                  intro y
                  refine hin ⟨y.1, ?_⟩
                  have a := nI_pos' (n := n) (by omega)
                  have b : nI n ≤ 5 := by rw [show (5 : Int32) = nI 5 from rfl]; exact nI_le (by omega) (by omega)
                  have y2 := y.2
                  generalize nI n = z at *
                  grind
                rw [zq_in_f hin2, zz_some, zz_i]
                refine ⟨fun _ => ?_, fun y => absurd rfl y⟩
                rw [zz_some]
                exact ⟨((r2 c0 b1).2.1 hi hin).symm, hfin T hf⟩
        · have hx2 := nI_lt_of hnle (by omega) (by omega)
          rw [zz_c]
          refine zz_mono (zq_lay (c := y) (n := n) hm'.2.1 h6 hh.2 hn (by omega)) (fun _ U1 ⟨g1, d1⟩ => ?_)
          have hf1 := zr_m_o (a := 407) (by omega) hf g1
          have hm1 := zr_m_e hf1 m1
          rw [zz_c, zq_mostOf hm1.2.1 h6 hn (fun x hx => ⟨zs_dig_lt hh.2, d1 x hx⟩), zz_some]
          have hmy : zs_most (zs_dig M n y) n M = mo y := by rw [hmo2]
          rw [hmy]
          have hmyn := hmo3 y
          -- the try of the row
          have hJ : (∀ x, x < y → P x → mo y < mo x) → zz_wp (m_Model_shifts_J78 k (nI n) m i z (nI y) (nI (mo y)) U1) (fun r2 S2 => r2 = r ∧ zi_Inv S2 (c + 100)) := by
            intro hless
            unfold m_Model_shifts_J78
            rw [zz_c]
            refine zz_mono (zq_goesCode (x := y) (v := zv_M S 400 0) hm1 hw hh.2 (by rw [zr_m_M hf1, hv1]) hnow.2 hc hn d1) (fun r U2 ⟨g2, w, e1, w1, w2, w3⟩ => ?_)
            subst e1
            have hf2 := zr_m_o (a := 401) (by omega) hf1 g2
            rw [zz_i]
            refine ⟨fun h => ?_, fun h => ?_⟩
            · have hwn : w = n := (nI_eq (by omega) (by omega)).mp h
              subst hwn
              have hPy : P y := by rw [hP]; exact w2
              refine zz_loopX (ap := fun (kk : zt_6) (u : Nat × sy_St) => kk (nI w) m i (nI (mo y)) (nI y) (nI u.1) u.2) (fun u => w - u.1) (fun u => u.1 ≤ w ∧ zr_m S1 u.2 ∧ (∀ x, x < w → u.2 407 x = nI (zs_dig M w y x)) ∧ ∀ x, x < u.1 → u.2 408 x = nI (zs_dig M w y x)) ?_ sy_F (0, U2) (zz_F (by simp only; omega)) ⟨by simp only; omega, hf2, fun x hx => by simp only; rw [g2 407 (by omega)]; exact d1 x hx, fun x hx => absurd hx (Nat.not_lt_zero _)⟩
              rintro kk ⟨j, V⟩ ⟨hj, hV, hV2, hV3⟩ hkk
              simp only at hj hV hV2 hV3 hkk ⊢
              unfold m_Model_shifts_B95
              rw [zz_i]
              refine ⟨fun hle3 => ?_, fun hnle3 => ?_⟩
              · have := nI_eq_of hle3 hj (by omega)
                subst this
                rw [zz_b, nI_1]
                exact hk (y + 1, nI (mo y), V) ⟨by simp only; omega, hV, Or.inr ⟨y, zu_new hPy hless, rfl, hV3⟩⟩ (by simp only; omega)
              · have hj2 := nI_lt_of hnle3 (by omega) (by omega)
                rw [zz_g, zz_g, zz_b, zz_b, nI_1]
                refine ⟨zz_in (by omega) (by omega), zz_in (by omega) (by omega), ?_⟩
                simp only [zz_cl (show j < 2147483648 by omega)]
                refine hkk (j + 1, sy_up V 408 j (V 407 j)) ⟨by simp only; omega, fun z a b d => by simp only; rw [zz_up1 d, hV z a b d], fun z hz => by simp only; rw [zz_up1 (by omega)]; exact hV2 z hz, fun z hz => ?_⟩ (by simp only; omega)
                simp only at hz ⊢
                rw [zz_upo]
                by_cases q : z = j
                · rw [if_pos q, q, hV2 j hj2]
                · rw [if_neg q]; exact hV3 z (by omega)
            · have hnP : ¬ P y := by
                rw [hP]
                intro q
                have := w3 n (Nat.le_refl _) q
                exact h (by rw [show w = n by omega])
              rw [zz_b, nI_1]
              refine hk (y + 1, z, U2) ⟨by simp only; omega, hf2, ?_⟩ (by simp only; omega)
              rcases hB with ⟨b1, b2⟩ | ⟨c0, b1, b2, b3⟩
              · exact Or.inl ⟨b1, zu_none_s (by omega) (fun x x1 x2 => by rw [show x = y by omega]; exact hnP) b2⟩
              · exact Or.inr ⟨c0, zu_best_s (by omega) (fun x x1 x2 x3 => absurd x3 (by rw [show x = y by omega]; exact hnP)) b1, b2, fun x hx => by simp only; rw [g2 408 (by omega), g1 408 (by omega)]; exact b3 x hx⟩
          rw [zz_i]
          refine ⟨fun hz => hJ ?_, fun hz => ?_⟩
          · rcases hB with ⟨b1, b2⟩ | ⟨c0, b1, b2, b3⟩
            · exact fun x hx hp => absurd hp (b2 x hx)
            · rw [hz] at b2; exact absurd b2.symm (nI_ne1 (by have := hmo3 c0; omega))
          · rcases hB with ⟨b1, b2⟩ | ⟨c0, b1, b2, b3⟩
            · exact absurd b1 hz
            have hmc := hmo3 c0
            rw [zz_i]
            refine ⟨fun h => ?_, fun h => hJ ?_⟩
            · rw [b2] at h
              have hle := (nI_leI (by omega) (by omega)).mp h
              rw [zz_b, nI_1]
              exact hk (y + 1, z, U1) ⟨by simp only; omega, hf1, Or.inr ⟨c0, zu_best_s (by omega) (fun x x1 x2 _ => by rw [show x = y by omega]; exact hle) b1, b2, fun x hx => by simp only; rw [g1 408 (by omega)]; exact b3 x hx⟩⟩ (by simp only; omega)
            · rw [b2] at h
              have hlt : mo y < mo c0 := by
                rcases Nat.lt_or_ge (mo y) (mo c0) with q | q
                · exact q
                · exact absurd (nI_le q (by omega)) h
              exact fun x hx hp => Nat.lt_of_lt_of_le hlt (b1.2.2.2 x hx hp)
      have hfound : m_Shift_isFound S1 = some (if S1 370 6 = nI 6 then 0 else 1, S1) := by
        unfold m_Shift_isFound
        rcases fA with ⟨a1, a2⟩ | ⟨c0, a1, a2, a3⟩
        · rw [a1]; rfl
        · have hmc := hmo3 c0
          rw [a2, if_neg (by rw [show (5 : Int32) = nI 5 from rfl]; exact nI_nlt (by omega) (by omega)), if_neg (fun q => by have := (nI_eq (by omega) (by omega)).mp q; omega)]
      rw [zz_i]
      refine ⟨fun hi => ?_, fun hi => ?_⟩
      · unfold m_Shift_fewest
        rw [zz_c, zz_c, hfound, zz_some, zz_i]
        rcases fA with ⟨a1, a2⟩ | ⟨c0, a1, a2, a3⟩
        · rw [if_pos a1]
          refine ⟨fun _ => ?_, fun q => absurd rfl q⟩
          rw [zz_some, zz_some]
          exact hR _ (fun _ => rfl) (fun c1 b1 => (zu_best_n b1 a2).elim)
        · have hmc := hmo3 c0
          rw [if_neg (fun q => by rw [a2] at q; have := (nI_eq (by omega) (by omega)).mp q; omega)]
          refine ⟨fun q => absurd q (by decide), fun _ => ?_⟩
          rw [zz_some, zz_some, a2]
          refine hR _ (fun b => (zu_best_n a1 b).elim) (fun c1 b1 => ⟨fun _ => by rw [zu_best_u a1 b1], fun q => absurd hi q, fun x hx q => ?_⟩)
          rw [hi] at q; exact absurd q.symm (nI_ne1 (by omega))
      · unfold m_Shift_holderAt
        rw [zz_c, zz_c, hfound, zz_some, zz_i]
        rcases fA with ⟨a1, a2⟩ | ⟨c0, a1, a2, a3⟩
        · rw [if_pos a1]
          refine ⟨fun _ => ?_, fun q => absurd rfl q⟩
          rw [zz_some, zz_some]
          exact hR _ (fun _ => rfl) (fun c1 b1 => (zu_best_n b1 a2).elim)
        · have hmc := hmo3 c0
          rw [if_neg (fun q => by rw [a2] at q; have := (nI_eq (by omega) (by omega)).mp q; omega)]
          refine ⟨fun q => absurd q (by decide), fun _ => ?_⟩
          rw [f4]
          simp only [zz_i, zz_some, zz_g]
          refine ⟨fun h2 => hR _ (fun _ => rfl) (fun c1 b1 => ⟨fun q => absurd q hi, fun _ _ => rfl, fun x hx y => ?_⟩), fun h2 => ⟨fun h3 => hR _ (fun _ => rfl) (fun c1 b1 => ⟨fun q => absurd q hi, fun _ _ => rfl, fun x hx y => ?_⟩), fun h3 => ?_⟩⟩
          · rw [y] at h2; exact absurd h2 (nI_pos (by omega))
          · rw [y] at h3; exact absurd h3 (nI_ge hx (by omega))
          · obtain ⟨x, hx, rfl⟩ : ∃ x, x < n ∧ i = nI x := by
              rcases pk_ix i (n := n) (by omega) with y | y | y
              · exact absurd y h2
              · exact absurd y h3
              · exact y
            simp only [zz_cl (show x < 2147483648 by omega), a3 x hx]
            refine ⟨zz_in (by omega) (by omega), hR _ (fun b => (zu_best_n a1 b).elim) (fun c1 b1 => ⟨fun q => absurd q hi, fun _ q => absurd ⟨nI_pos' (by omega), nI_lt hx (by omega)⟩ q, fun w hw2 q => ?_⟩)⟩
            rw [zu_best_u a1 b1, (nI_eq (by omega) (by omega)).mp q]
    · refine zo_two (r := -1000000003) (S1 := S) (S2 := S) ?_ ?_ gs
      · unfold m_Top_shifts
        refine zz_det ?_
        rw [zz_c, zp_isNoTrial, if_pos hr, zz_some, zz_i]
        refine ⟨fun _ => ?_, fun q => absurd rfl q⟩
        rw [zz_c, zp_isWhole hcl hw, if_neg hh, zz_some, zz_i]
        refine ⟨fun _ => ?_, fun q => absurd rfl q⟩
        rw [zz_some]
        exact ⟨rfl, rfl⟩
      · unfold m_Model_shifts
        refine zz_det ?_
        rw [zz_c, zq_in_t hr.1.1 hr.1.2, zz_some, zz_i]
        refine ⟨fun q => absurd q (by decide), fun _ => ?_⟩
        rw [zz_c, zq_in_t hr.2.1 hr.2.2, zz_some, zz_i]
        refine ⟨fun q => absurd q (by decide), fun _ => ?_⟩
        rw [zz_c, zq_isHere hm hw, if_neg hh, zz_some, zz_i]
        refine ⟨fun _ => ?_, fun q => absurd rfl q⟩
        rw [zz_some]
        exact ⟨rfl, rfl⟩
  · refine zo_two (r := -1000000002) (S1 := S) (S2 := S) ?_ ?_ gs
    · unfold m_Top_shifts
      refine zz_det ?_
      rw [zz_c, zp_isNoTrial, if_neg hr, zz_some, zz_i]
      refine ⟨fun q => absurd q (by decide), fun _ => ?_⟩
      rw [zz_some]
      exact ⟨rfl, rfl⟩
    · unfold m_Model_shifts
      refine zz_det ?_
      by_cases h1 : 1 ≤ n ∧ n ≤ 5
      · rw [zz_c, zq_in_t h1.1 h1.2, zz_some, zz_i]
        refine ⟨fun q => absurd q (by decide), fun _ => ?_⟩
        rw [zz_c, zq_in_f (fun q => hr ⟨h1, q⟩), zz_some, zz_i]
        refine ⟨fun _ => ?_, fun q => absurd rfl q⟩
        rw [zz_some]
        exact ⟨rfl, rfl⟩
      · rw [zz_c, zq_in_f h1, zz_some, zz_i]
        refine ⟨fun _ => ?_, fun q => absurd rfl q⟩
        rw [zz_some]
        exact ⟨rfl, rfl⟩
