/-! ===== WHO, SURE ===== -/
theorem zp_find_s {S : sy_St} {e : Nat → Nat → Int32} {wc M n c0 : Nat} {v sg : Nat → Int32} {all : Int32} (he : ze_C S e wc M) (hw : ze_W e wc M) (h0 : 0 < M) (hn : n ≤ 5) (hv : zv_W v M c0) (hc0 : c0 < 1000000) (hall : ∀ x, zs_or (zs_dig M n x) n &&& all = zs_or (zs_dig M n x) n) (h7 : S 374 7 = nI n) (hs : ∀ i, i < n → S 377 i = sg i) (hk : zv_K S 45 = v) :
    zz_wp (m_Seen_find 45 S) (fun _ S1 => (∀ i, i ≠ 374 → i ≠ 375 → i ≠ 376 → i ≠ 378 → (i < 10 ∨ 34 < i) → S1 i = S i) ∧ (∀ j, j ≠ 4 → j ≠ 8 → j ≠ 9 → S1 374 j = S 374 j) ∧ S1 374 4 = nI n ∧ zr_A S1 (fun c => zs_asSeen e wc M v (zs_dig M n c) n sg) (fun x => zs_or (zs_dig M n x) n) all M n (M ^ n)) := by
  have hmin : sy_min 5 (nI n) = nI n := by
    unfold sy_min
    by_cases h : n < 5
    · rw [if_pos (by rw [show (5 : Int32) = nI 5 from rfl]; exact nI_lt h (by omega))]
    · rw [if_neg (by rw [show (5 : Int32) = nI 5 from rfl]; exact nI_nlt (by omega) (by omega)), show n = 5 by omega]; rfl
  unfold m_Seen_find m_Rows_tryRows_s
  simp only [zz_b, zz_c]
  have e7 : sy_up (sy_up S 374 8 0) 374 9 0 374 7 = nI n := by simp [zz_up, h7]
  rw [e7, hmin]
  obtain ⟨T0, hT0⟩ : ∃ T0, T0 = sy_up (sy_up (sy_up S 374 8 0) 374 9 0) 374 4 (nI n) := ⟨_, rfl⟩
  rw [← hT0]
  have t1 : ∀ i, i ≠ 374 → T0 i = S i := fun i a => by rw [hT0, zz_up1 a, zz_up1 a, zz_up1 a]
  have t2 : ∀ j, T0 374 j = if j = 4 then nI n else if j = 9 then 0 else if j = 8 then 0 else S 374 j := fun j => by rw [hT0]; simp only [zz_up]; grind
  refine zz_loopX (ap := fun (k : zt_1) (u : Nat × sy_St) => k (nI u.1) u.2) (fun u => 6 - u.1) (fun u => u.1 ≤ 6 ∧ (∀ i, i ≠ 376 → u.2 i = T0 i) ∧ ∀ q, q < u.1 → u.2 376 q = 0) ?_ sy_F (0, T0) (zz_F (by simp only; omega)) ⟨by simp only; omega, fun _ _ => rfl, fun q hq => absurd hq (Nat.not_lt_zero _)⟩
  rintro k ⟨q, T⟩ ⟨hq, hf, hz⟩ hkk
  simp only at hq hf hz hkk ⊢
  unfold m_Rows_tryRows_s_B11
  rw [zz_i]
  refine ⟨fun hle => ?_, fun hnle => ?_⟩
  · have hq6 : q = 6 := by
      rcases Nat.lt_or_ge q 6 with x | x
      · exact absurd hle (by rw [show (6 : Int32) = nI 6 from rfl]; exact nI_ge x (by omega))
      · omega
    subst hq6
    rw [zz_c]
    have h45 : zv_K T 45 = v := by rw [← hk]; exact zv_Kc (fun i j a b => by rw [hf i (by omega), t1 i (by omega)])
    refine zz_mono (zp_copyFrom (k := 10) (a := 45) (by omega)) (fun _ U ⟨f1, k1⟩ => ?_)
    rw [zz_c]
    have hU : ∀ i, i ≠ 374 → i ≠ 376 → (i < 10 ∨ 34 < i) → U i = S i := fun i a b c => by rw [f1 i (by omega), hf i b, t1 i a]
    have hU4 : U 374 = T0 374 := by rw [f1 374 (by omega), hf 374 (by omega)]
    have hL : zr_L U e wc M n v sg 0 0 := by
      refine ⟨zr_eC (fun i a b => hU i (by omega) (by omega) (by omega)) he, by rw [hU4, t2, if_pos rfl], fun i hi => by rw [hU 377 (by omega) (by omega) (by omega)]; exact hs i hi, fun i hi => absurd hi (Nat.not_lt_zero _), fun q hq => ?_, fun _ => by rw [show 10 + 5 * 0 = 10 from rfl, k1, h45]; rfl⟩
      rw [f1 376 (by omega), hz q hq]; rfl
    have hA : zr_A U (fun c => zs_asSeen e wc M v (zs_dig M n c) n sg) (fun x => zs_or (zs_dig M n x) n) all M n (0 * M ^ n) := by
      rw [Nat.zero_mul]
      refine ⟨?_, fun h => absurd h (Nat.lt_irrefl 0), fun _ => ?_⟩
      · rw [hU4, t2]; rfl
      · rw [hU4, t2]; rfl
    refine zz_mono (zp_goOn_s hw h0 hn hv hc0 hall n 0 8 0 U (by omega) (by omega) (by simp) hL (fun i hi => absurd hi (Nat.not_lt_zero _)) hA) (fun _ S1 ⟨g, gA⟩ => ?_)
    rw [zz_some, zz_some]
    rw [Nat.zero_add, Nat.one_mul] at gA
    refine ⟨fun i a b c d x => ?_, fun j a b c => ?_, ?_, gA⟩
    · rw [g.1 i a b d (by omega), hU i a c x]
    · rw [g.2.1 j b c, hU4, t2, if_neg a, if_neg c, if_neg b]
    · rw [g.2.1 4 (by omega) (by omega), hU4, t2, if_pos rfl]
  · have hq2 : q < 6 := nI_lt_of (n := 6) hnle (by omega) (by omega)
    rw [zz_g, zz_b, zz_b, nI_1]
    refine ⟨zz_in (by omega) (by omega), ?_⟩
    simp only [zz_cl (show q < 2147483648 by omega)]
    refine hkk (q + 1, sy_up T 376 q 0) ⟨by simp only; omega, fun i hi => by simp only; rw [zz_up1 hi, hf i hi], fun x hx => ?_⟩ (by simp only; omega)
    simp only at hx ⊢
    rw [zz_upo]
    by_cases y : x = q
    · rw [if_pos y]
    · rw [if_neg y]; exact hz x (by omega)
/-- what the reference's search may change -/
def zr_m (S S1 : sy_St) : Prop := ∀ i, i ≠ 401 → i ≠ 407 → i ≠ 408 → S1 i = S i
theorem zr_m_o {S S1 S2 : sy_St} {a : Nat} (ha : a = 401 ∨ a = 407 ∨ a = 408) (h : zr_m S S1) (g : zf_o S1 S2 a a) : zr_m S S2 := fun i x y z => by rw [g i (by omega), h i x y z]
theorem zr_m_M {S S1 : sy_St} (h : zr_m S S1) : zv_M S1 400 0 = zv_M S 400 0 := zv_Mc (fun j _ _ => by rw [h 400 (by omega) (by omega) (by omega)])
theorem zr_m_e {S S1 : sy_St} {e : Nat → Nat → Int32} {wc M : Nat} (h : zr_m S S1) (he : ze_M S e wc M) : ze_M S1 e wc M := zd_eM (fun i j d => by rw [h i (by omega) (by omega) (by omega)]) he
theorem zq_seenCode {S0 S : sy_St} {e : Nat → Nat → Int32} {wc M n c c1 : Nat} {v sg : Nat → Int32} {Q : Int32 → sy_St → Prop} (k : Int32 → sy_St → sy_R) (hf : zr_m S0 S) (hm : ze_M S0 e wc M) (hw : ze_W e wc M) (h0 : 0 < M) (hv : zv_M S0 400 0 = v) (hW : zv_W v M c1) (hc1 : c1 < 1000000) (hn : n ≤ 5) (h28 : S0 392 28 = nI n) (hs : ∀ i, i < n → S0 405 i = sg i) (hc : c < 10000)
    (k1 : ∀ S2, zr_m S0 S2 → S2 408 = S 408 → (∀ i, i < n → S2 407 i = nI (zs_dig M n c i)) → zs_asSeen e wc M v (zs_dig M n c) n sg → zz_wp (k 1 S2) Q) (k0 : ∀ S2, zr_m S0 S2 → S2 408 = S 408 → ¬ zs_asSeen e wc M v (zs_dig M n c) n sg → zz_wp (k 0 S2) Q) :
    zz_wp (sy_c (m_Model_lay (nI c) (S 392 28) S) fun _ S17 => sy_c (m_Model_isAsSeen S17) fun r S20 => k r S20) Q := by
  have h28' : S 392 28 = nI n := by rw [hf 392 (by omega) (by omega) (by omega), h28]
  have hm1 := zr_m_e hf hm
  rw [zz_c, h28']
  refine zz_mono (zq_lay (c := c) (n := n) hm1.2.1 hw.2.1 h0 hn hc) (fun _ S1 ⟨f1, d1⟩ => ?_)
  have hf1 := zr_m_o (a := 407) (by omega) hf f1
  rw [zz_c]
  have hv1 : zv_M S1 400 0 = v := by rw [zr_m_M hf1, hv]
  refine zz_mono (zq_isAsSeen (S := S1) (sg := sg) (dg := zs_dig M n c) (zr_m_e hf1 hm) hw (by rw [hv1]; exact hW) hc1 hn (by rw [hf1 392 (by omega) (by omega) (by omega), h28]) (fun i hi => by rw [hf1 405 (by omega) (by omega) (by omega)]; exact hs i hi) (fun i hi => ⟨zs_dig_lt h0, d1 i hi⟩)) (fun r S2 ⟨f2, hr⟩ => ?_)
  rw [hv1] at hr
  have hf2 := zr_m_o (a := 401) (by omega) hf1 f2
  have h408 : S2 408 = S 408 := by rw [f2 408 (by omega), f1 408 (by omega)]
  rcases hr with ⟨g, rfl⟩ | ⟨g, rfl⟩
  · exact k1 S2 hf2 h408 (fun i hi => by rw [f2 407 (by omega)]; exact d1 i hi) g
  · exact k0 S2 hf2 h408 g
/-- what both searches leave keeps all of it -/
theorem zo_scr2 {S S2 : sy_St} {e : Nat → Nat → Int32} {wc M c : Nat} (g : zi_all S e wc M c) (h : ∀ i j, ¬ ((10 ≤ i ∧ i ≤ 34) ∨ i = 401 ∨ i = 375 ∨ i = 376 ∨ i = 378 ∨ (407 ≤ i ∧ i ≤ 408) ∨ (i = 374 ∧ (j = 4 ∨ j = 8 ∨ j = 9))) → S2 i j = S i j) : zi_Inv S2 (c + 100) := by
  refine ⟨e, wc, M, zi_all_m (by omega) (zi_all_f (fun i j d => h i j ?_) g)⟩
  unfold zd_all zd_edge zd_now zd_seed zd_past zd_img zd_text zd_fault zd_seen zd_book at d
  omega
theorem zo_sure : zo_ok m_Top_sure m_Model_sure := by
  intro S e wc M c hc g
  have gs := zo_same g
  have gg := g
  obtain ⟨⟨hw, hm, hcl⟩, hnow, -, -, -, -, -, ⟨n, hn, s1, s2, s3⟩, -⟩ := g
  by_cases hh : 0 < wc ∧ 0 < M
  · have h6 := hw.2.1
    have hN := zs_powM M (by omega) n (by omega)
    have hall : ∀ x, zs_or (zs_dig M n x) n &&& zs_allM M = zs_or (zs_dig M n x) n := fun x => by
      obtain ⟨y, -, a, b⟩ := zs_or_all (n := n) (dg := zs_dig M n x) h6 (fun i _ => zs_dig_lt hh.2)
      rw [a, b]
    unfold m_Top_sure
    rw [zz_c, zp_isWhole hcl hw, if_pos hh, zz_some, zz_i]
    refine ⟨fun q => absurd q (by decide), fun _ => ?_⟩
    rw [zz_c]
    refine zz_mono (zp_find_s (n := n) (sg := S 405) (all := zs_allM M) (v := zv_M S 400 0) hcl hw hh.2 hn hnow.2 hc hall s1 s3 hnow.1) (fun _ S1 ⟨f1, f2, f3, fA⟩ => ?_)
    rw [zz_some]
    have m1 : ze_M S1 e wc M := zd_eM (fun i j d => by rw [f1 i (by omega) (by omega) (by omega) (by omega) (by omega)]) hm
    unfold m_Model_sure
    rw [zz_c, zq_isHere m1 hw, if_pos hh, zz_some, zz_i]
    refine ⟨fun q => absurd q (by decide), fun _ => ?_⟩
    rw [zz_b, m1.2.1]
    have hv1 : zv_M S1 400 0 = zv_M S 400 0 := zv_Mc (fun j _ _ => by rw [f1 400 (by omega) (by omega) (by omega) (by omega) (by omega)])
    have h28 : S1 392 28 = nI n := by rw [f1 392 (by omega) (by omega) (by omega) (by omega) (by omega), s2]
    obtain ⟨G, hG⟩ : ∃ G : Nat → Prop, G = fun c => zs_asSeen e wc M (zv_M S 400 0) (zs_dig M n c) n (S 405) := ⟨_, rfl⟩
    obtain ⟨mk, hmk⟩ : ∃ mk : Nat → Int32, mk = fun x => zs_or (zs_dig M n x) n := ⟨_, rfl⟩
    rw [← hG, ← hmk] at fA
    refine zz_loopX (ap := fun (k : zt_3) (u : Nat × sy_St) => k (zs_sn G mk (zs_allM M) u.1).2 (nI (zs_sn G mk (zs_allM M) u.1).1) (nI u.1) u.2) (fun u => M ^ n - u.1) (fun u => u.1 ≤ M ^ n ∧ zr_m S1 u.2) ?_ sy_F (0, S1) (zz_F (by simp only; omega)) ⟨by simp only; omega, fun _ _ _ _ => rfl⟩
    rintro k ⟨x, T⟩ ⟨hx, hf⟩ hk
    simp only at hx hf hk ⊢
    have hm' : T 392 19 = nI M := by rw [hf 392 (by omega) (by omega) (by omega)]; exact m1.2.1
    have h28' : T 392 28 = nI n := by rw [hf 392 (by omega) (by omega) (by omega)]; exact h28
    have hle := zs_sn_le (good := G) (mk := mk) (all := zs_allM M) x
    unfold m_Model_sure_B23
    rw [zz_c, hm', h28', zq_power h6 hn, zz_some, zz_i]
    refine ⟨fun hle2 => ?_, fun hnle => ?_⟩
    · have hxe : x = M ^ n := nI_eq_of hle2 hx (by omega)
      subst hxe
      have fin : zi_Inv T (c + 100) := zo_scr2 gg (fun i j d => by
        rw [hf i (by omega) (by omega) (by omega)]
        by_cases q : i = 374
        · subst q; exact f2 j (by omega) (by omega) (by omega)
        · rw [f1 i q (by omega) (by omega) (by omega) (by omega)])
      obtain ⟨a1, a2, a3⟩ := fA
      rw [zz_i]
      refine ⟨fun h => ?_, fun h => ?_⟩
      · rw [zz_some]
        have hz : (zs_sn G mk (zs_allM M) (M ^ n)).1 = 0 := by
          rcases Nat.eq_zero_or_pos (zs_sn G mk (zs_allM M) (M ^ n)).1 with y | y
          · exact y
          · exact absurd h (nI_ne0 y (by omega))
        exact ⟨(a3 hz).symm, fin⟩
      · rw [zz_some]
        have hp : 0 < (zs_sn G mk (zs_allM M) (M ^ n)).1 := by
          rcases Nat.eq_zero_or_pos (zs_sn G mk (zs_allM M) (M ^ n)).1 with y | y
          · rw [y] at h; exact absurd rfl h
          · exact y
        exact ⟨(a2 hp).1.symm, fin⟩
    · have hx2 := nI_lt_of hnle (by omega) (by omega)
      refine zq_seenCode (S0 := S1) (n := n) (c1 := c) (v := zv_M S 400 0) (sg := S 405) (fun r15 S14 => if r15 = 0 then (sy_b (nI x + 1 : Int32) fun x18 => k (zs_sn G mk (zs_allM M) x).2 (nI (zs_sn G mk (zs_allM M) x).1) x18 S14) else (sy_fix (fun _ _ _ _ _ _ => none) (m_Model_sure_B60 k) sy_F (zs_sn G mk (zs_allM M) x).2 (nI (zs_sn G mk (zs_allM M) x).1) (nI x) 0 0 S14)) hf m1 hw hh.2 hv1 hnow.2 hc hn h28 (fun i _ => by rw [f1 405 (by omega) (by omega) (by omega) (by omega) (by omega)]) (by omega) (fun S2 b1 b2 b3 b4 => ?_) (fun S2 b1 b2 b4 => ?_)
      · rw [if_neg (by decide)]
        refine zz_loopX (ap := fun (kk : zt_5) (i : Nat) => kk (zs_sn G mk (zs_allM M) x).2 (nI (zs_sn G mk (zs_allM M) x).1) (nI x) (zs_or (zs_dig M n x) i) (nI i) S2) (fun i => n - i) (fun i => i ≤ n) ?_ sy_F 0 (zz_F (by omega)) (by omega)
        intro kk i hi hkk
        unfold m_Model_sure_B60
        rw [zz_i, b1 392 (by omega) (by omega) (by omega), h28]
        refine ⟨fun hle3 => ?_, fun hnle3 => ?_⟩
        · have := nI_eq_of hle3 hi (by omega)
          subst this
          rw [zz_b, zz_b, zz_b, nI_1, nI_1]
          have hk := hk (x + 1, S2) ⟨by simp only; omega, b1⟩ (by simp only; omega)
          simp only at hk
          rw [zs_sn_y (c := x) (by rw [hG]; exact b4)] at hk
          simp only at hk
          rw [show zs_or (zs_dig M i x) i = mk x by rw [hmk]]
          exact hk
        · have hi2 := nI_lt_of hnle3 (by omega) (by omega)
          have hkk := hkk (i + 1) (by omega) (by omega)
          rw [zs_or] at hkk
          rw [zz_g, zz_b, zz_b, nI_1]
          simp only [zz_cl (show i < 2147483648 by omega), b3 i hi2]
          exact ⟨zz_in (by omega) (by omega), hkk⟩
      · rw [if_pos rfl, zz_b, nI_1]
        have hk := hk (x + 1, S2) ⟨by simp only; omega, b1⟩ (by simp only; omega)
        simp only at hk
        rw [zs_sn_n (c := x) (by rw [hG]; exact b4)] at hk
        exact hk
  · refine zo_two (r := -1000000003) (S1 := S) (S2 := S) ?_ ?_ gs
    · unfold m_Top_sure
      rw [zp_isWhole hcl hw, if_neg hh]; rfl
    · unfold m_Model_sure
      rw [zq_isHere hm hw, if_neg hh]; rfl
theorem zo_who (p : Int32) : zo_ok (m_Top_who p) (m_Model_who p) := by
  intro S e wc M c hc g
  have gs := zo_same g
  have gg := g
  obtain ⟨⟨hw, hm, hcl⟩, hnow, -, -, -, -, -, ⟨n, hn, s1, s2, s3⟩, -⟩ := g
  by_cases hh : 0 < wc ∧ 0 < M
  · have h6 := hw.2.1
    have hN := zs_powM M (by omega) n (by omega)
    have hall : ∀ x, zs_or (zs_dig M n x) n &&& zs_allM M = zs_or (zs_dig M n x) n := fun x => by
      obtain ⟨y, -, a, b⟩ := zs_or_all (n := n) (dg := zs_dig M n x) h6 (fun i _ => zs_dig_lt hh.2)
      rw [a, b]
    unfold m_Top_who
    rw [zz_c, zp_isWhole hcl hw, if_pos hh, zz_some, zz_i]
    refine ⟨fun q => absurd q (by decide), fun _ => ?_⟩
    rw [zz_c]
    refine zz_mono (zp_find_s (n := n) (sg := S 405) (all := zs_allM M) (v := zv_M S 400 0) hcl hw hh.2 hn hnow.2 hc hall s1 s3 hnow.1) (fun _ S1 ⟨f1, f2, f3, fA⟩ => ?_)
    have m1 : ze_M S1 e wc M := zd_eM (fun i j d => by rw [f1 i (by omega) (by omega) (by omega) (by omega) (by omega)]) hm
    have hv1 : zv_M S1 400 0 = zv_M S 400 0 := zv_Mc (fun j _ _ => by rw [f1 400 (by omega) (by omega) (by omega) (by omega) (by omega)])
    have h28 : S1 392 28 = nI n := by rw [f1 392 (by omega) (by omega) (by omega) (by omega) (by omega), s2]
    obtain ⟨G, hG⟩ : ∃ G : Nat → Prop, G = fun c => zs_asSeen e wc M (zv_M S 400 0) (zs_dig M n c) n (S 405) := ⟨_, rfl⟩
    obtain ⟨mk, hmk⟩ : ∃ mk : Nat → Int32, mk = fun x => zs_or (zs_dig M n x) n := ⟨_, rfl⟩
    rw [← hG, ← hmk] at fA
    obtain ⟨a1, a2, a3⟩ := fA
    have hleN := zs_sn_le (good := G) (mk := mk) (all := zs_allM M) (M ^ n)
    have hfin : ∀ T, zr_m S1 T → zi_Inv T (c + 100) := fun T hf => zo_scr2 gg (fun i j d => by
      rw [hf i (by omega) (by omega) (by omega)]
      by_cases q : i = 374
      · subst q; exact f2 j (by omega) (by omega) (by omega)
      · rw [f1 i q (by omega) (by omega) (by omega) (by omega)])
    -- the reference's run, for whatever the class answers
    have hR : ∀ r : Int32, (p = -1 → r = nI (zs_sn G mk (zs_allM M) (M ^ n)).1) → (p ≠ -1 → ((zs_sn G mk (zs_allM M) (M ^ n)).1 = 0 ∨ ¬ (0 ≤ p ∧ p < nI n)) → r = -1) → (∀ i, i < n → p = nI i → 0 < (zs_sn G mk (zs_allM M) (M ^ n)).1 → ∃ c0, G c0 ∧ (∀ x, x < c0 → ¬ G x) ∧ r = nI (zs_dig M n c0 i)) → zz_wp (m_Model_who p S1) (fun r2 S2 => r2 = r ∧ zi_Inv S2 (c + 100)) := by
      intro r r1 r2 r3
      unfold m_Model_who
      rw [zz_c, zq_isHere m1 hw, if_pos hh, zz_some, zz_i]
      refine ⟨fun q => absurd q (by decide), fun _ => ?_⟩
      rw [zz_c, m1.2.1, h28, zq_power h6 hn, zz_some, zz_b]
      refine zz_loopX (ap := fun (k : zt_3) (u : Nat × Nat × sy_St) => k p (nI u.2.1) (nI u.1 - 1) u.2.2) (fun u => u.1) (fun u => u.1 ≤ M ^ n ∧ zr_m S1 u.2.2 ∧ (zs_sn G mk (zs_allM M) u.1).1 + u.2.1 = (zs_sn G mk (zs_allM M) (M ^ n)).1 ∧ (0 < u.2.1 → ∃ c0, u.1 ≤ c0 ∧ G c0 ∧ (∀ x, u.1 ≤ x → x < c0 → ¬ G x) ∧ ∀ i, i < n → u.2.2 408 i = nI (zs_dig M n c0 i))) ?_ sy_F (M ^ n, 0, S1) (zz_F (by simp only; omega)) ⟨by simp only; omega, fun _ _ _ _ => rfl, by simp only; omega, fun h => absurd h (Nat.lt_irrefl 0)⟩
      rintro k ⟨x, q, T⟩ ⟨hx, hf, hs, hq⟩ hk
      simp only at hx hf hs hq hk ⊢
      have h28' : T 392 28 = nI n := by rw [hf 392 (by omega) (by omega) (by omega)]; exact h28
      unfold m_Model_who_B26
      rw [zz_i]
      rcases Nat.eq_zero_or_pos x with hx0 | hxp
      · subst hx0
        have hs' : q = (zs_sn G mk (zs_allM M) (M ^ n)).1 := by rw [← hs]; simp [zs_sn]
        refine ⟨fun _ => ?_, fun h => absurd (show nI 0 - 1 < 0 by decide) h⟩
        rw [zz_i]
        refine ⟨fun hp => ?_, fun hp => ?_⟩
        · rw [zz_some, r1 hp, hs']
          exact ⟨rfl, hfin T hf⟩
        · rw [zz_i]
          refine ⟨fun h => ?_, fun h => ?_⟩
          · rw [zz_some]
            have hz : q = 0 := by
              rcases Nat.eq_zero_or_pos q with y | y
              · exact y
              · exact absurd h (nI_ne0 y (by omega))
            exact ⟨(r2 hp (Or.inl (by omega))).symm, hfin T hf⟩
          · have hpos : 0 < q := by
              rcases Nat.eq_zero_or_pos q with y | y
              · rw [y] at h; exact absurd rfl h
              · exact y
            rw [zz_c, h28']
            by_cases hin : 0 ≤ p ∧ p < nI n
            · obtain ⟨i, hi, rfl⟩ : ∃ i, i < n ∧ p = nI i := by
                rcases pk_ix p (n := n) (by omega) with y | y | y
                · exact absurd y (by have := hin.1; grind)
                · exact absurd y (by have := hin.2; grind)
                · exact y
              have hle : nI i ≤ nI n - 1 := by
                obtain ⟨m, rfl⟩ : ∃ m, n = m + 1 := ⟨n - 1, by omega⟩
                rw [nI_pred]; exact nI_le (by omega) (by omega)
              rw [zq_in_t hin.1 hle, zz_some, zz_i]
              refine ⟨fun y => absurd y (by decide), fun _ => ?_⟩
              rw [zz_g, zz_some, zz_cl (by omega)]
              refine ⟨zz_in (by omega) (by omega), ?_, hfin T hf⟩
              obtain ⟨c0, b1, b2, b3, b4⟩ := hq hpos
              obtain ⟨c2, d1, d2, d3⟩ := r3 i hi rfl (by omega)
              have : c0 = c2 := by
                rcases Nat.lt_trichotomy c0 c2 with y | y | y
                · exact absurd b2 (d2 c0 y)
                · exact y
                · exact absurd d1 (b3 c2 (Nat.zero_le _) y)
              subst this
              rw [b4 i hi, d3]
            · have hin2 : ¬ (0 ≤ p ∧ p ≤ nI n - 1) := by
                intro y
                refine hin ⟨y.1, ?_⟩
                have a := nI_pos' (n := n) (by omega)
                have b : nI n ≤ 5 := by rw [show (5 : Int32) = nI 5 from rfl]; exact nI_le (by omega) (by omega)
                have y2 := y.2
                generalize nI n = z at *
                grind
              rw [zq_in_f hin2, zz_some, zz_i]
              refine ⟨fun _ => ?_, fun y => absurd rfl y⟩
              rw [zz_some]
              exact ⟨(r2 hp (Or.inr hin)).symm, hfin T hf⟩
      · obtain ⟨x, rfl⟩ : ∃ y, x = y + 1 := ⟨x - 1, by omega⟩
        rw [nI_pred]
        refine ⟨fun h => absurd h (nI_pos (by omega)), fun _ => ?_⟩
        have hm1x : nI x + -1 = nI x - 1 := by grind
        refine zq_seenCode (S0 := S1) (n := n) (c1 := c) (v := zv_M S 400 0) (sg := S 405) (fun r21 S20 => if r21 = 0 then (sy_b (nI x + (-1) : Int32) fun x24 => k p (nI q) x24 S20) else (sy_b (nI q + 1 : Int32) fun x25 => sy_fix (fun _ _ _ _ _ => none) (m_Model_who_B52 k) sy_F p x25 (nI x) 0 S20)) hf m1 hw hh.2 hv1 hnow.2 hc hn h28 (fun i _ => by rw [f1 405 (by omega) (by omega) (by omega) (by omega) (by omega)]) (by omega) (fun S2 b1 b2 b3 b4 => ?_) (fun S2 b1 b2 b4 => ?_)
        · rw [if_neg (by decide), zz_b, nI_1]
          refine zz_loopX (ap := fun (kk : zt_4) (u : Nat × sy_St) => kk p (nI (q + 1)) (nI x) (nI u.1) u.2) (fun u => n - u.1) (fun u => u.1 ≤ n ∧ zr_m S1 u.2 ∧ (∀ i, i < n → u.2 407 i = nI (zs_dig M n x i)) ∧ ∀ i, i < u.1 → u.2 408 i = nI (zs_dig M n x i)) ?_ sy_F (0, S2) (zz_F (by simp only; omega)) ⟨by simp only; omega, b1, b3, fun i hi => absurd hi (Nat.not_lt_zero _)⟩
          rintro kk ⟨i, U⟩ ⟨hi, hU, hU2, hU3⟩ hkk
          simp only at hi hU hU2 hU3 hkk ⊢
          unfold m_Model_who_B52
          rw [zz_i, hU 392 (by omega) (by omega) (by omega), h28]
          refine ⟨fun hle3 => ?_, fun hnle3 => ?_⟩
          · have := nI_eq_of hle3 hi (by omega)
            subst this
            rw [zz_b, hm1x]
            rw [zs_sn_y (c := x) (by rw [hG]; exact b4)] at hs
            refine hk (x, q + 1, U) ⟨by simp only; omega, hU, by simp only at hs ⊢; omega, fun _ => ⟨x, Nat.le_refl _, by rw [hG]; exact b4, fun y a b => absurd b (by simp only at a; omega), hU3⟩⟩ (by simp only; omega)
          · have hi2 := nI_lt_of hnle3 (by omega) (by omega)
            rw [zz_g, zz_g, zz_b, zz_b, nI_1]
            refine ⟨zz_in (by omega) (by omega), zz_in (by omega) (by omega), ?_⟩
            simp only [zz_cl (show i < 2147483648 by omega)]
            refine hkk (i + 1, sy_up U 408 i (U 407 i)) ⟨by simp only; omega, fun z a b d => by simp only; rw [zz_up1 d, hU z a b d], fun z hz => by simp only; rw [zz_up1 (by omega)]; exact hU2 z hz, fun z hz => ?_⟩ (by simp only; omega)
            simp only at hz ⊢
            rw [zz_upo]
            by_cases y : z = i
            · rw [if_pos y, y, hU2 i hi2]
            · rw [if_neg y]; exact hU3 z (by omega)
        · rw [if_pos rfl, zz_b, hm1x]
          have hng : ¬ G x := by rw [hG]; exact b4
          rw [zs_sn_n (c := x) hng] at hs
          refine hk (x, q, S2) ⟨by simp only; omega, b1, by simp only; omega, fun hq2 => ?_⟩ (by simp only; omega)
          obtain ⟨c0, d1, d2, d3, d4⟩ := hq hq2
          refine ⟨c0, by simp only; omega, d2, fun y a b => ?_, fun i hi => by simp only; rw [b2]; exact d4 i hi⟩
          simp only at a
          by_cases z : y = x
          · rw [z]; exact hng
          · exact d3 y (by omega) b
    rw [zz_i, zz_some]
    refine ⟨fun hp => hR _ (fun _ => a1) (fun h => absurd hp h) (fun i hi h => ?_), fun hp => ?_⟩
    · rw [hp] at h; exact absurd h.symm (nI_ne1 (by omega))
    · unfold m_Seen_holderAt
      rw [zz_c, a1, f3]
      have hpos : ∀ x : Nat, x ≤ 10000 → ¬ nI x ≤ 0 → 0 < x := fun x hx h => by
        rcases Nat.eq_zero_or_pos x with y | y
        · rw [y] at h; exact absurd (by decide) h
        · exact y
      simp only [zz_i, zz_some, zz_g]
      refine ⟨fun h => hR _ (fun y => absurd y hp) (fun _ _ => rfl) (fun i _ _ y => absurd h (nI_nle y (by omega))), fun h => ⟨fun h2 => hR _ (fun y => absurd y hp) (fun _ _ => rfl) (fun i hi y => ?_), fun h2 => ⟨fun h3 => hR _ (fun y => absurd y hp) (fun _ _ => rfl) (fun i hi y => ?_), fun h3 => ?_⟩⟩⟩
      · rw [y] at h2; exact absurd h2 (nI_pos (by omega))
      · rw [y] at h3; exact absurd h3 (nI_ge hi (by omega))
      · obtain ⟨b1, c0, b2, b3, b4, b5⟩ := a2 (hpos _ (by omega) h)
        have hb := hpos _ (by omega) h
        obtain ⟨i, hi, rfl⟩ : ∃ i, i < n ∧ p = nI i := by
          rcases pk_ix p (n := n) (by omega) with y | y | y
          · exact absurd y h2
          · exact absurd y h3
          · exact y
        simp only [zz_cl (show i < 2147483648 by omega), b5 i hi]
        refine ⟨zz_in (by omega) (by omega), hR _ (fun y => absurd y hp) (fun _ y => ?_) (fun x hx y _ => ⟨c0, b3, b4, ?_⟩)⟩
        · rcases y with y | y
          · omega
          · exact absurd ⟨nI_pos' (by omega), nI_lt hi (by omega)⟩ y
        · have := (nI_eq (by omega) (by omega)).mp y
          rw [this]
  · refine zo_two (r := -1000000003) (S1 := S) (S2 := S) ?_ ?_ gs
    · unfold m_Top_who
      rw [zp_isWhole hcl hw, if_neg hh]; rfl
    · unfold m_Model_who
      rw [zq_isHere hm hw, if_neg hh]; rfl
