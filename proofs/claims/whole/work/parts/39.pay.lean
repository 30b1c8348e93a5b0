abbrev zt_7 : Type := Int32 → Int32 → Int32 → Int32 → Int32 → Int32 → Int32 → sy_St → sy_R
theorem zq_pay {S : sy_St} {M : Nat} {v : Nat → Int32} (hM : S 392 19 = nI M) (h6 : M ≤ 6) (hv : zv_M S 400 0 = v) : zz_wp (m_Model_payments S) (fun r S1 => r = nI (zs_off (zs_owe v M) M) - nI (zs_Mo (zs_owe v M) M (zs_nz (zs_owe v M) M M)) ∧ zf_o S S1 409 409) := by
  have h64 := zs_pow_le M (by omega)
  have hpos : 0 < 2 ^ M := Nat.two_pow_pos M
  generalize ho : zs_owe v M = o
  have cl : ∀ i, i < 64 → (nI i).toNatClampNeg = i := fun i hi => zz_cl (by omega)
  have i64 : ∀ i, i < 64 → sy_in (nI i) 64 = True := fun i hi => eq_true (zz_in hi (by omega))
  have ow : ∀ (S2 : sy_St) (p : Nat), zf_o S S2 409 409 → p < M → m_Model_owesOf (nI p) S2 = some (o p, S2) := fun S2 p hf hp => by
    rw [zq_owe (by rw [hf 392 (by omega), hM]) h6 hp, zf_M hf (by omega), hv, ho]
  unfold m_Model_payments
  refine zz_loopX (ap := fun (k : zt_2) (t : Nat) => k (nI (zs_off o t)) (nI t) S) (fun t => M - t) (fun t => t ≤ M) ?_ sy_F 0 (zz_F (by omega)) (by omega)
  intro k n hn hk
  try simp only at hk ⊢
  unfold m_Model_payments_B4
  rw [zz_i, hM]
  refine ⟨fun hle => ?_, fun hn1 => ?_⟩
  rotate_left
  · have hn2 := nI_lt_of hn1 (by omega) (by omega)
    rw [zz_c, ow S n zf_refl hn2, zz_some]
    simp only [zz_i, zz_b, nI_1, Int32.add_zero]
    refine ⟨fun h0 => ?_, fun h0 => ?_⟩
    · have := hk (n + 1) (by omega) (by omega)
      rw [zs_off, if_pos h0, Nat.add_zero] at this
      exact this
    · have := hk (n + 1) (by omega) (by omega)
      rw [zs_off, if_neg h0] at this
      exact this
  have := nI_eq_of hle hn (by omega)
  subst this
  rw [zs_pow_I n (by omega), show (1 : Int32) = nI 1 from rfl, pk_sub (by omega), zz_b]
  clear hk hle
  refine zz_loopX (ap := fun (k : zt_3) (t : Nat × sy_St) => k (nI (zs_off o n)) (nI (2 ^ n - 1)) (nI t.1) t.2) (fun t => 2 ^ n - t.1) (fun t => t.1 ≤ 2 ^ n ∧ zf_o S t.2 409 409 ∧ ∀ x, x < t.1 → t.2 409 x = nI (zs_Mo o n x)) ?_ sy_F (0, S) (zz_F (by simp only; omega)) ⟨by simp only; omega, zf_refl, fun x hx => absurd hx (by simp only; omega)⟩
  rintro k ⟨g, S1⟩ ⟨hg, hf, hx⟩ hk
  simp only at hg hf hx hk ⊢
  unfold m_Model_payments_B45
  rw [zz_i]
  refine ⟨fun hlt => ?_, fun hnl => ?_⟩
  · have hge : g = 2 ^ n := by have := (nI_ltI (by omega) (by omega)).mp hlt; omega
    subst hge
    refine zz_loopX (ap := fun (k : zt_3) (t : Nat) => k (nI (zs_off o n)) (nI (zs_nz o n t)) (nI t) S1) (fun t => n - t) (fun t => t ≤ n) ?_ sy_F 0 (zz_F (by omega)) (by omega)
    intro k2 t ht hk2
    try simp only at hk2 ⊢
    have hl := zs_nz_lt (o := o) (M := n) (by omega) t ht
    unfold m_Model_payments_B236
    rw [zz_i, hf 392 (by omega), hM]
    refine ⟨fun hle => ?_, fun hn1 => ?_⟩
    · have := nI_eq_of hle ht (by omega)
      subst this
      rw [zz_g, zz_some, cl _ (by omega), hx _ hl]
      exact ⟨zz_in (by omega) (by omega), rfl, hf⟩
    · have hn2 := nI_lt_of hn1 (by omega) (by omega)
      rw [zz_c, ow S1 t hf hn2, zz_some, zs_wo_I _ (by omega) t (by omega)]
      simp only [zz_i, zz_b, nI_1]
      have h := hk2 (t + 1) (by omega) (by omega)
      rw [zs_nz] at h
      refine ⟨fun h0 => ?_, fun h0 => ?_⟩
      · rw [if_pos h0] at h; exact h
      · rw [if_neg h0] at h; exact h
  · have hg2 : g < 2 ^ n := by
      rcases Nat.lt_or_ge g (2 ^ n) with q | q
      · exact q
      · exact absurd (nI_lt (show 2 ^ n - 1 < g by omega) (by omega)) hnl
    have hmb : ∀ t, t ≤ n → zs_mx (zs_Mo o n) g t ≤ g - 1 := fun t ht => zs_mx_b (by omega) (by omega) (fun x hx => zs_Mo_le h6 x (by omega))
    refine zz_loopX (ap := fun (k : zt_6) (t : Nat) => k (nI (zs_off o n)) (nI (2 ^ n - 1)) (nI g) (zs_ps o g t) (nI (zs_mx (zs_Mo o n) g t)) (nI t) S1) (fun t => n - t) (fun t => t ≤ n) ?_ sy_F 0 (zz_F (by omega)) (by omega)
    intro k2 t ht hk2
    try simp only at hk2 ⊢
    unfold m_Model_payments_B59
    rw [zz_i, hf 392 (by omega), hM]
    refine ⟨fun hle => ?_, fun hn1 => ?_⟩
    rotate_left
    · have hn2 := nI_lt_of hn1 (by omega) (by omega)
      have h := hk2 (t + 1) (by omega) (by omega)
      rw [zs_ps, zs_mx] at h
      rw [zz_c, zq_has (by omega) (by omega), zz_some]
      unfold m_Model_payments_J89
      simp only [zq_has (show g < 64 by omega) (show t < 6 by omega), zs_wo_I g (by omega) t (by omega)]
      by_cases hb : g.testBit t = true
      · rw [if_pos hb, if_pos hb] at h
        have hlt := zs_wo_lt g (by omega) t (by omega) hb
        have hCl := zs_Mo_le (o := o) h6 (zs_wo g t) (by omega)
        have hm1 := hmb t (by omega)
        rw [if_pos hb, if_neg (by decide), zz_c, ow S1 t hf hn2, zz_some]
        simp only [zz_b, zz_c, zz_some, zz_g, zz_i, nI_1, cl _ (show zs_wo g t < 64 by omega), hx _ (show zs_wo g t < g by omega) , i64 _ (show zs_wo g t < 64 by omega), true_and]
        refine ⟨fun z => absurd z (by decide), fun _ => ⟨fun hle => ?_, fun hnle => ?_⟩⟩
        · have := (nI_leI (by omega) (by omega)).mp hle
          rw [Nat.max_eq_left this] at h
          exact h
        · have : zs_mx (zs_Mo o n) g t ≤ zs_Mo o n (zs_wo g t) := by
            rcases Nat.lt_or_ge (zs_Mo o n (zs_wo g t)) (zs_mx (zs_Mo o n) g t) with q | q
            · exact absurd (nI_le (Nat.le_of_lt q) (by omega)) hnle
            · exact q
          rw [Nat.max_eq_right this] at h
          exact h
      · rw [if_neg hb, if_neg hb] at h
        rw [if_neg hb, if_pos rfl]
        simp only [zz_b, zz_c, zz_some, nI_1, if_true]
        exact h
    have := nI_eq_of hle ht (by omega)
    subst this
    have hval : zs_Mo o t g = zs_mx (zs_Mo o t) g t + zs_if1 (zs_ps o g t = 0 ∧ g ≠ 0 ∧ zs_no0 o g t) := by rw [zs_Mo_eq h6 (by omega), zs_mval_e]
    have fin : ∀ w : Int32, w = nI (zs_Mo o t g) → zz_wp (k (nI (zs_off o t)) (nI (2 ^ t - 1)) (nI (g + 1)) (sy_up S1 409 g w)) (fun r S1 => r = nI (zs_off o t) - nI (zs_Mo o t (zs_nz o t t)) ∧ zf_o S S1 409 409) := fun w hw => by
      refine hk (g + 1, sy_up S1 409 g w) ⟨by simp only; omega, fun i h => by simp only; rw [zz_up1 (by omega), hf i h], fun x h => ?_⟩ (by simp only; omega)
      simp only at h ⊢
      rw [zz_up, if_pos rfl]
      by_cases q : x = g
      · subst q; rw [if_pos rfl, hw]
      · rw [if_neg q]; exact hx x (by omega)
    clear hk hk2 hle
    refine zz_loopX (ap := fun (k : zt_7) (u : Int32 × Nat) => k (nI (zs_off o t)) (nI (2 ^ t - 1)) (nI g) (zs_ps o g t) (nI (zs_mx (zs_Mo o t) g t)) u.1 (nI u.2) S1) (fun u => t - u.2) (fun u => u.2 ≤ t ∧ ((u.1 = 0 ∧ zs_no0 o g u.2) ∨ (u.1 = 1 ∧ ¬ zs_no0 o g u.2))) ?_ sy_F (0, 0) (zz_F (by simp only; omega)) ⟨by simp only; omega, Or.inl ⟨rfl, fun p hp => absurd hp (by simp only; omega)⟩⟩
    rintro k3 ⟨fl, u⟩ ⟨hu, hfl⟩ hk3
    simp only at hu hfl hk3 ⊢
    unfold m_Model_payments_B151
    rw [zz_i, hf 392 (by omega), hM]
    refine ⟨fun hle => ?_, fun hn1 => ?_⟩
    · have := nI_eq_of hle hu (by omega)
      subst this
      simp only [zz_i, zz_b, zz_g, i64 g (by omega), true_and, cl g (by omega), nI_1]
      refine ⟨fun h0 => ⟨fun g0 => ?_, fun g0 => ⟨fun f0 => ?_, fun f0 => ?_⟩⟩, fun h0 => ?_⟩
      · have i0 : zs_if1 (zs_ps o g u = 0 ∧ g ≠ 0 ∧ zs_no0 o g u) = 0 := zs_if1_f (fun z => z.2.1 ((nI_eq (by omega) (by omega)).mp (g0.trans nI_0.symm)))
        exact fin _ (by rw [hval, i0]; rfl)
      · have i0 : zs_if1 (zs_ps o g u = 0 ∧ g ≠ 0 ∧ zs_no0 o g u) = 1 := zs_if1_t ⟨h0, fun z => g0 (by rw [z]; rfl), by
          rcases hfl with z | z
          · exact z.2
          · rw [z.1] at f0; exact absurd f0 (by decide)⟩
        exact fin _ (by rw [hval, i0])
      · have i0 : zs_if1 (zs_ps o g u = 0 ∧ g ≠ 0 ∧ zs_no0 o g u) = 0 := zs_if1_f (fun z => by
          rcases hfl with y | y
          · exact f0 y.1
          · exact y.2 z.2.2)
        exact fin _ (by rw [hval, i0]; rfl)
      · have i0 : zs_if1 (zs_ps o g u = 0 ∧ g ≠ 0 ∧ zs_no0 o g u) = 0 := zs_if1_f (fun z => h0 z.1)
        exact fin _ (by rw [hval, i0]; rfl)
    · have hn2 := nI_lt_of hn1 (by omega) (by omega)
      have same : ∀ f2 : Int32, ((f2 = 0 ∧ zs_no0 o g u ∧ ¬ (g.testBit u = true ∧ o u = 0)) ∨ (f2 = 1 ∧ (¬ zs_no0 o g u ∨ (g.testBit u = true ∧ o u = 0)))) → zz_wp (k3 (nI (zs_off o t)) (nI (2 ^ t - 1)) (nI g) (zs_ps o g t) (nI (zs_mx (zs_Mo o t) g t)) f2 (nI (u + 1)) S1) (fun r S1 => r = nI (zs_off o t) - nI (zs_Mo o t (zs_nz o t t)) ∧ zf_o S S1 409 409) := fun f2 h => by
        refine hk3 (f2, u + 1) ⟨by simp only; omega, ?_⟩ (by simp only; omega)
        simp only
        rcases h with ⟨a, b, d⟩ | ⟨a, b⟩
        · refine Or.inl ⟨a, fun p hp => ?_⟩
          by_cases q : p = u
          · subst q; exact d
          · exact b p (by omega)
        · refine Or.inr ⟨a, fun z => ?_⟩
          rcases b with b | b
          · exact b (fun p hp => z p (by omega))
          · exact z u (by omega) b
      rw [zq_has (by omega) (by omega)]
      simp only [zz_i, zz_b, zz_c, zz_some, nI_1, ow S1 u hf hn2]
      refine ⟨fun f0 => ⟨fun b0 => ?_, fun b0 => ⟨fun o0 => ?_, fun o0 => ?_⟩⟩, fun f0 => ?_⟩
      · rcases hfl with z | z
        · exact same 0 (Or.inl ⟨rfl, z.2, fun y => by rw [if_pos y.1] at b0; exact absurd b0 (by decide)⟩)
        · rw [z.1] at f0; exact absurd f0 (by decide)
      · refine same 1 (Or.inr ⟨rfl, Or.inr ⟨?_, o0⟩⟩)
        refine Classical.byContradiction fun y => ?_
        rw [if_neg y] at b0; exact b0 rfl
      · rcases hfl with z | z
        · exact same 0 (Or.inl ⟨rfl, z.2, fun y => o0 y.2⟩)
        · rw [z.1] at f0; exact absurd f0 (by decide)
      · rcases hfl with z | z
        · exact absurd z.1 f0
        · exact same 1 (Or.inr ⟨rfl, Or.inl z.2⟩)
theorem zo_payments : zo_ok m_Top_payments m_Model_payments := by
  intro S e wc M c hc g
  have gg := g
  obtain ⟨⟨hw, hm, hcl⟩, hnow, -⟩ := g
  unfold m_Top_payments
  rw [zz_c]
  refine zz_mono (zp_pay hcl.2.1 hw.2.1 hnow.1) (fun r S1 ⟨h1, f1⟩ => ?_)
  rw [zz_some]
  have hm2 : ze_M S1 e wc M := zf_eM f1 (by omega) hm
  refine zz_mono (zq_pay hm2.2.1 hw.2.1 (zf_M f1 (by omega))) (fun r2 S2 ⟨h2, f2⟩ => ⟨?_, zo_scr gg (fun x hx => by rw [f2 x (by omega), f1 x (by omega)])⟩)
  rw [h1, h2, zs_pay_eq hw.2.1]
