/-! ===== the search of the class, by prefixes: SHIFTS ===== -/
theorem zp_fits_h {S : sy_St} {d j x b cn : Nat} {low lim : Int32} (hd : d < 5) (hj : j < 6) (h8 : S 370 8 = lim) (h7 : S 370 7 = nI x) (h6 : S 370 6 = nI b) (hc : S 372 j = nI cn) (hx : x < 100) (hb : b < 100) (hcn : cn < 100) : m_Shift_fits (nI d) (nI j) low S = if low ≤ lim then some (if b ≤ cn + 1 then 0 else 1, sy_up S 370 7 (nI (max x (d + 1)))) else some (0, S) := by
  unfold m_Shift_fits sy_b sy_g
  rw [h8, h7, nI_1]
  have hm : sy_max (nI x) (nI (d + 1)) = nI (max x (d + 1)) := by
    unfold sy_max
    by_cases z : x < d + 1
    · rw [if_pos (nI_lt z (by omega)), Nat.max_eq_right (by omega)]
    · rw [if_neg (nI_nlt (by omega) (by omega)), Nat.max_eq_left (by omega)]
  rw [hm]
  by_cases h : low ≤ lim
  · rw [if_pos h, if_pos h]
    simp only []
    rw [if_pos (zz_in hj (by omega))]
    simp only [zz_cl (show j < 2147483648 by omega)]
    have e6 : sy_up S 370 7 (nI (max x (d + 1))) 370 6 = nI b := by rw [zz_upo, if_neg (by omega), h6]
    have e372 : sy_up S 370 7 (nI (max x (d + 1))) 372 j = nI cn := by rw [zz_up1 (by omega), hc]
    rw [e6, e372, nI_1]
    by_cases z : b ≤ cn + 1
    · rw [if_pos (nI_le z (by omega)), if_pos z]
    · rw [if_neg (nI_ge (by omega) (by omega)), if_neg z]
  · rw [if_neg h, if_neg h]
theorem zp_goOn_h {e : Nat → Nat → Int32} {wc M n c0 : Nat} {v : Nat → Int32} {lim : Int32} (hw : ze_W e wc M) (h0 : 0 < M) (hn : n ≤ 5) (hv : zv_W v M c0) (hc0 : c0 < 1000000) :
    ∀ (k d fuel p : Nat) (S : sy_St), n = d + k → k < fuel → p < M ^ d → zu_L S e wc M n v lim d p → (∀ i, i < d → zs_run e wc M v (zs_dig M d p) (i + 1) 1 ≤ lim) → zu_A S (fun c => zu_U e wc M v n lim c n) (fun x => zs_most (zs_dig M n x) n M) M n (p * M ^ k) → (∃ x, S 370 7 = nI x ∧ zu_D (zu_U e wc M v n lim) n (p * M ^ k) d x) →
      zz_wp (sy_fix (fun _ _ => none) m_Rows_goOn_h_R fuel (nI d) S) (fun _ S1 => zu_f S S1 d ∧ zu_A S1 (fun c => zu_U e wc M v n lim c n) (fun x => zs_most (zs_dig M n x) n M) M n ((p + 1) * M ^ k) ∧ ∃ x, S1 370 7 = nI x ∧ zu_D (zu_U e wc M v n lim) n ((p + 1) * M ^ k) d x) := by
  have h6 := hw.2.1
  intro k
  induction k with
  | zero =>
    intro d fuel p S hd hf hp hL hs hA hD
    obtain ⟨f, rfl⟩ : ∃ f, fuel = f + 1 := ⟨fuel - 1, by omega⟩
    have hdn : d = n := by omega
    subst hdn
    obtain ⟨l1, l2, l3, l4, l5, -⟩ := hL
    show zz_wp (m_Rows_goOn_h_R _ (nI d) S) _
    unfold m_Rows_goOn_h_R
    rw [zz_i, l2]
    refine ⟨fun h => absurd h (nI_nlt (Nat.le_refl _) (by omega)), fun _ => ?_⟩
    rw [zz_c]
    rw [Nat.pow_zero, Nat.mul_one] at hA hD ⊢
    refine zz_mono (zp_endRow_h (c := p) h6 h0 hn hs l4 l5 hA) (fun r S1 ⟨q1, q2, q3⟩ => ?_)
    rw [zz_some]
    obtain ⟨x, x1, x2, x3, x4, x5⟩ := hD
    exact ⟨q1, q3, x, by rw [q2, x1], x2, x3, Or.inl x2, fun y g _ hg _ => by omega⟩
  | succ k ih =>
    intro d fuel p S hd hf hp hL hs hA hD
    obtain ⟨f, rfl⟩ : ∃ f, fuel = f + 1 := ⟨fuel - 1, by omega⟩
    show zz_wp (m_Rows_goOn_h_R _ (nI d) S) _
    unfold m_Rows_goOn_h_R
    rw [zz_i, hL.2.1]
    refine ⟨fun _ => ?_, fun h => absurd (nI_lt (show d < n by omega) (by omega)) h⟩
    refine zz_loopX (ap := fun (kk : zt_2) (u : Nat × sy_St) => kk (nI d) (nI u.1) u.2) (fun u => M - u.1) (fun u => u.1 ≤ M ∧ zu_f S u.2 d ∧ zu_A u.2 (fun c => zu_U e wc M v n lim c n) (fun x => zs_most (zs_dig M n x) n M) M n ((p * M + u.1) * M ^ k) ∧ ∃ x, u.2 370 7 = nI x ∧ zu_D (zu_U e wc M v n lim) n ((p * M + u.1) * M ^ k) d x) ?_ sy_F (0, S) (zz_F (by simp only; omega)) ⟨by simp only; omega, zu_f_refl, by simp only; rw [zs_ch0]; exact hA, by simp only; rw [zs_ch0]; exact hD⟩
    rintro kk ⟨j, T⟩ ⟨hj, hfr, hA2, x, hx1, hD2⟩ hk
    simp only at hj hfr hA2 hx1 hD2 hk ⊢
    have hL2 := zu_L_f hn hL hfr
    obtain ⟨l1, l2, l3, l4, l5, l6⟩ := hL2
    unfold m_Rows_goOn_h_B15
    rw [zz_i, l1.2.1]
    refine ⟨fun hle => ?_, fun hnle => ?_⟩
    · have := nI_eq_of hle hj (by omega)
      subst this
      rw [zz_some]
      rw [zs_chM] at hA2 hD2
      exact ⟨hfr, hA2, x, hx1, hD2⟩
    have hj2 := nI_lt_of hnle (by omega) (by omega)
    have hd5 : d < 5 := by omega
    have l6' := l6 (by omega)
    have hdigs : ∀ i, i < d → zs_dig M d p i < M := fun i _ => zs_dig_lt h0
    have hWd : zv_W (zs_run e wc M v (zs_dig M d p) d) M (c0 + d) := zs_run_W hw hv hdigs d (Nat.le_refl _)
    have cd : (nI d).toNatClampNeg = d := zz_cl (by omega)
    have cj : (nI j).toNatClampNeg = j := zz_cl (by omega)
    rw [zz_g, zz_c]
    refine ⟨zz_in hd5 (by omega), ?_⟩
    have hcl := zs_cnt_le (dg := zs_dig M d p) (p := j) d
    obtain ⟨b, hb1, hb2⟩ : ∃ b, T 370 6 = nI b ∧ ((b = 6 ∧ zu_none (fun c => zu_U e wc M v n lim c n) ((p * M + j) * M ^ k)) ∨ ∃ c1, zu_best (fun c => zu_U e wc M v n lim c n) (fun x => zs_most (zs_dig M n x) n M) ((p * M + j) * M ^ k) c1 ∧ b = zs_most (zs_dig M n c1) n M) := by
      rcases hA2 with ⟨a1, a2⟩ | ⟨c1, a1, a2, a3⟩
      · exact ⟨6, a1, Or.inl ⟨rfl, a2⟩⟩
      · exact ⟨_, a2, Or.inr ⟨c1, a1, rfl⟩⟩
    have hb3 : b < 100 := by
      rcases hb2 with ⟨q, -⟩ | ⟨c1, -, q⟩
      · omega
      · have := zs_most_le (dg := zs_dig M n c1) (n := n) M; omega
    rw [show 10 + 5 * (nI d).toNatClampNeg = 10 + 5 * d by rw [cd], zp_lowBehind (c := c0 + d) l1 hw (by rw [l6']; exact hWd.1) (by omega) (Or.inr ⟨j, hj2, rfl⟩) (Or.inl rfl), l6', zz_some, zz_c, zp_fits_h (x := x) (b := b) (cn := zs_cnt (zs_dig M d p) j d) hd5 (by omega) l3 hx1 hb1 (l5 j (by omega)) (by have := hD2.1; omega) hb3 (by omega)]
    have hlow : zs_run e wc M v (zs_dig M (d + 1) (p * M + j)) (d + 1) 1 = zs_low e wc (zs_run e wc M v (zs_dig M d p) d) (nI j) (-1) 0 := by
      rw [zs_run_ch hj2, zs_step_e (by omega), zs_end_1]
    have hstep : zs_run e wc M v (zs_dig M (d + 1) (p * M + j)) (d + 1) = zs_end e (zs_hand (zs_run e wc M v (zs_dig M d p) d) j) (zs_low e wc (zs_run e wc M v (zs_dig M d p) d) (nI j) (-1) 0) M := by
      rw [zs_run_ch hj2, zs_step_e (by omega)]
    generalize zs_low e wc (zs_run e wc M v (zs_dig M d p) d) (nI j) (-1) 0 = low at hlow hstep ⊢
    have hcode : ∀ c, (p * M + j) * M ^ k ≤ c → c < (p * M + (j + 1)) * M ^ k → zs_run e wc M v (zs_dig M n c) (d + 1) 1 = low := fun c c1 c2 => by
      rw [← hlow, ← zs_run_pre (v := v) (wc := wc) (e := e) (n := n) (k := k) (d := d + 1) (c := c) (by omega) c1 c2 (Nat.le_refl _)]
    by_cases hll : low ≤ lim
    · rw [if_pos hll, zz_some]
      obtain ⟨T1, hT1⟩ : ∃ T1, T1 = sy_up T 370 7 (nI (max x (d + 1))) := ⟨_, rfl⟩
      rw [← hT1]
      have s1 : ∀ i, i ≠ 370 → T1 i = T i := fun i a => by rw [hT1, zz_up1 a]
      have s2 : ∀ y, T1 370 y = if y = 7 then nI (max x (d + 1)) else T 370 y := fun y => by rw [hT1, zz_upo]
      have hfr1 : zu_f S T1 d := zu_f_trans hfr ⟨fun i a _ _ _ => s1 i a, fun y a1 a2 => by rw [s2, if_neg a2], fun y _ => by rw [s1 371 (by omega)]⟩
      have hA1 : zu_A T1 (fun c => zu_U e wc M v n lim c n) (fun x => zs_most (zs_dig M n x) n M) M n ((p * M + j) * M ^ k) := zu_A_f (by rw [s2, if_neg (by omega)]) (s1 373 (by omega)) hA2
      by_cases hcut : b ≤ zs_cnt (zs_dig M d p) j d + 1
      · rw [if_pos hcut, zz_i]
        refine ⟨fun _ => ?_, fun h => absurd rfl h⟩
        rcases hb2 with ⟨q, -⟩ | ⟨c1, q1, q2⟩
        · exact absurd hcut (by omega)
        · have hD3 := hD2.2.2.2 c1 n q1.1 (Nat.le_refl _) q1.2.1
          have hxn : x = n := by have := hD2.1; omega
          rw [zz_b, nI_1]
          refine hk (j + 1, T1) ⟨by simp only; omega, hfr1, ?_, n, ?_, ?_⟩ (by simp only; omega)
          · simp only
            rcases hA1 with ⟨a1, a2⟩ | ⟨c2, a1, a2, a3⟩
            · exact absurd a2 (fun z => zu_best_n q1 z)
            · have := zu_best_u q1 a1
              subst this
              refine Or.inr ⟨c1, zu_best_s zs_chs (fun y y1 y2 _ => ?_) a1, a2, a3⟩
              have g1 := zs_most_ge (dg := zs_dig M n y) (n := n) (j := j) M hj2
              have g2 : zs_cnt (zs_dig M n y) j (d + 1) = zs_cnt (zs_dig M (d + 1) (p * M + j)) j (d + 1) := zs_cnt_pre (k := k) (by omega) y1 y2 (Nat.le_refl _)
              have g3 := zs_cnt_mono (dg := zs_dig M n y) (p := j) (i := d + 1) k
              rw [show d + 1 + k = n by omega] at g3
              rw [zs_cnt_ch hj2, if_pos rfl] at g2
              show zs_most (zs_dig M n c1) n M ≤ zs_most (zs_dig M n y) n M
              omega
          · simp only
            rw [s2, if_pos rfl, hxn, Nat.max_eq_left (by omega)]
          · refine ⟨Nat.le_refl _, by omega, Or.inr ⟨c1, Nat.lt_of_lt_of_le q1.1 zs_chs, q1.2.1⟩, fun y g _ hg _ => hg⟩
      · rw [if_neg hcut, zz_i]
        refine ⟨fun h => absurd h (by decide), fun _ => ?_⟩
        rw [zz_g, zz_b, zz_g, zz_g, zz_b]
        simp only [cd, cj]
        refine ⟨zz_in hd5 (by omega), zz_in (by omega) (by omega), zz_in (by omega) (by omega), ?_⟩
        obtain ⟨T2, hT2⟩ : ∃ T2, T2 = sy_up (sy_up T1 371 d (nI j)) 372 j (sy_up T1 371 d (nI j) 372 j + 1) := ⟨_, rfl⟩
        rw [← hT2]
        have t1 : ∀ i, i ≠ 371 → i ≠ 372 → T2 i = T1 i := fun i a b => by rw [hT2, zz_up1 b, zz_up1 a]
        have t2 : ∀ y, T2 371 y = if y = d then nI j else T1 371 y := fun y => by rw [hT2, zz_up1 (by omega), zz_upo]
        have t3 : ∀ y, T2 372 y = if y = j then T1 372 j + 1 else T1 372 y := fun y => by rw [hT2, zz_upo, zz_up1 (show (372 : Nat) ≠ 371 by omega)]
        have hjlt : p * M + j < M ^ (d + 1) := by
          rw [Nat.pow_succ]
          have : p * M + M ≤ M ^ d * M := by rw [show p * M + M = (p + 1) * M by rw [Nat.add_mul, Nat.one_mul]]; exact Nat.mul_le_mul_right _ hp
          omega
        have hs2 : ∀ i, i < d + 1 → zs_run e wc M v (zs_dig M (d + 1) (p * M + j)) (i + 1) 1 ≤ lim := fun i hi => by
          by_cases y : i = d
          · subst y; rw [hlow]; exact hll
          · rw [zs_run_c (d := d) (dg2 := zs_dig M d p) (fun y hy => zs_dig_ch hj2 hy) (i + 1) (by omega)]
            exact hs i (by omega)
        have hDc : zu_D (zu_U e wc M v n lim) n ((p * M + j) * M ^ k) (d + 1) (max x (d + 1)) := by
          obtain ⟨z1, z2, z3, z4⟩ := hD2
          refine ⟨by omega, by omega, ?_, fun y g y1 y2 y3 => by have := z4 y g y1 y2 y3; omega⟩
          by_cases y : x ≤ d + 1
          · exact Or.inl (by omega)
          · rcases z3 with z | z
            · exact Or.inl (by omega)
            · rw [Nat.max_eq_left (by omega)]; exact Or.inr z
        have hJ : ∀ U : sy_St, (∀ i, i ≠ 371 → i ≠ 372 → (i < 10 + 5 * (d + 1) ∨ 34 < i) → U i = T1 i) → (∀ y, y < d + 1 → U 371 y = T2 371 y) → U 372 = T2 372 → (d + 1 < n → zv_K U (10 + 5 * (d + 1)) = zs_run e wc M v (zs_dig M (d + 1) (p * M + j)) (d + 1)) → zz_wp (m_Rows_goOn_h_J86 (sy_fix (fun _ _ => none) m_Rows_goOn_h_R f) kk (nI d) (nI j) U) (fun _ S1 => zu_f S S1 d ∧ zu_A S1 (fun c => zu_U e wc M v n lim c n) (fun x => zs_most (zs_dig M n x) n M) M n ((p + 1) * M ^ (k + 1)) ∧ ∃ x, S1 370 7 = nI x ∧ zu_D (zu_U e wc M v n lim) n ((p + 1) * M ^ (k + 1)) d x) := by
          intro U u1 u2 u3 u4
          have u370 : U 370 = T1 370 := u1 370 (by omega) (by omega) (by omega)
          have hLU : zu_L U e wc M n v lim (d + 1) (p * M + j) := by
            refine ⟨zr_eC (fun i a b => by rw [u1 i (by omega) (by omega) (by omega), s1 i (by omega)]) l1, by rw [u370, s2, if_neg (by omega), l2], by rw [u370, s2, if_neg (by omega), l3], fun i hi => ?_, fun q hq => ?_, u4⟩
            · rw [u2 i hi, t2]
              by_cases y : i = d
              · subst y; rw [if_pos rfl, zs_dig_last hj2]
              · rw [if_neg y, s1 371 (by omega), l4 i (by omega), zs_dig_ch hj2 (by omega)]
            · rw [u3, t3, zs_cnt_ch hj2, s1 372 (by omega)]
              by_cases y : q = j
              · subst y; rw [if_pos rfl, if_pos rfl, l5 q hq, nI_1]
              · rw [if_neg y, if_neg (fun z => y z.symm), l5 q hq, Nat.add_zero]
          unfold m_Rows_goOn_h_J86
          rw [zz_c, nI_1]
          refine zz_mono (ih (d + 1) f (p * M + j) U (by omega) (by omega) hjlt hLU hs2 (zu_A_f (by rw [u370]) (u1 373 (by omega) (by omega) (by omega)) hA1) ⟨_, by rw [u370, s2, if_pos rfl], hDc⟩) (fun r U2 ⟨g, gA, x2, gx, gD⟩ => ?_)
          rw [zz_g, zz_g, zz_b, zz_b, nI_1]
          simp only [cj]
          refine ⟨zz_in (by omega) (by omega), zz_in (by omega) (by omega), ?_⟩
          have g372 : U2 372 = T2 372 := by rw [g.1 372 (by omega) (by omega) (by omega) (by omega), u3]
          refine hk (j + 1, sy_up U2 372 j (U2 372 j - 1)) ⟨by simp only; omega, zu_f_trans hfr1 ⟨fun i a b c y => ?_, fun y a b => ?_, fun y hy => ?_⟩, ?_, x2, ?_, ?_⟩ (by simp only; omega)
          · simp only
            by_cases z : i = 372
            · subst z
              funext z
              rw [zz_upo, g372, t3, t3, if_pos rfl]
              by_cases zz : z = j
              · subst zz; rw [if_pos rfl, Int32.add_sub_cancel]
              · rw [if_neg zz, if_neg zz]
            · rw [zz_up1 z, g.1 i a b c (by omega), u1 i b z y]
          · simp only
            rw [zz_up1 (by omega), g.2.1 y a b, u370]
          · simp only
            rw [zz_up1 (by omega), g.2.2 y (by omega), u2 y (by omega), t2, if_neg (by omega)]
          · simp only
            exact zu_A_f (by rw [zz_up1 (by omega)]) (by rw [zz_up1 (by omega)]) gA
          · simp only
            rw [zz_up1 (by omega)]; exact gx
          · simp only
            obtain ⟨z1, z2, z3, z4⟩ := gD
            refine ⟨z1, by omega, ?_, z4⟩
            rcases z3 with z | z
            · refine Or.inr ⟨(p * M + j) * M ^ k, zs_chp h0, fun i hi => ?_⟩
              rw [zs_run_pre (v := v) (wc := wc) (e := e) (n := n) (k := k) (d := d + 1) (p := p * M + j) (by omega) (Nat.le_refl _) (by rw [Nat.add_assoc]; exact zs_chp h0) (show i + 1 ≤ d + 1 by omega)]
              exact hs2 i (by omega)
            · exact Or.inr z
        rw [zz_i, t1 370 (by omega) (by omega), s2, if_neg (by omega), l2, nI_1]
        refine ⟨fun hle => ?_, fun hnle2 => ?_⟩
        · have : n ≤ d + 1 := (nI_leI (by omega) (by omega)).mp hle
          exact hJ T2 (fun i a b _ => t1 i a b) (fun _ _ => rfl) rfl (fun y => absurd y (by omega))
        · have hlt := nI_lt_of hnle2 (by omega) (by omega)
          rw [zz_c]
          refine zz_mono (zp_standBehind_h (S := T2) (zr_eC (fun i a b => by rw [t1 i (by omega) (by omega), s1 i (by omega)]) l1) hw (by omega)) (fun r U ⟨u1, u2⟩ => ?_)
          refine hJ U (fun i a b y => ?_) (fun y _ => ?_) ?_ (fun _ => ?_)
          · rw [u1 i (by omega), t1 i a b]
          · rw [u1 371 (by omega)]
          · rw [u1 372 (by omega)]
          · rw [u2, hstep, ← l6']
            congr 2
            exact zv_Kc (fun i y a b => by rw [t1 i (by omega) (by omega), s1 i (by omega)])
    · rw [if_neg hll, zz_some, zz_i]
      refine ⟨fun _ => ?_, fun h => absurd rfl h⟩
      rw [zz_b, nI_1]
      have hnU : ∀ y g, (p * M + j) * M ^ k ≤ y → y < (p * M + (j + 1)) * M ^ k → zu_U e wc M v n lim y g → g ≤ d := fun y g y1 y2 hU => by
        rcases Nat.lt_or_ge d g with z | z
        · have := hU d z
          rw [hcode y y1 y2] at this
          exact absurd this hll
        · exact z
      refine hk (j + 1, T) ⟨by simp only; omega, hfr, ?_, x, hx1, ?_⟩ (by simp only; omega)
      · simp only
        rcases hA2 with ⟨a1, a2⟩ | ⟨c1, a1, a2, a3⟩
        · exact Or.inl ⟨a1, zu_none_s zs_chs (fun y y1 y2 y3 => by have := hnU y n y1 y2 y3; omega) a2⟩
        · exact Or.inr ⟨c1, zu_best_s zs_chs (fun y y1 y2 y3 => by have := hnU y n y1 y2 y3; omega) a1, a2, a3⟩
      · simp only
        obtain ⟨z1, z2, z3, z4⟩ := hD2
        refine ⟨z1, z2, ?_, fun y g y1 y2 y3 => ?_⟩
        · rcases z3 with z | ⟨y, ya, yb⟩
          · exact Or.inl z
          · exact Or.inr ⟨y, Nat.lt_of_lt_of_le ya zs_chs, yb⟩
        · by_cases z : y < (p * M + j) * M ^ k
          · exact z4 y g z y2 y3
          · have := hnU y g (by omega) y1 y3; omega
