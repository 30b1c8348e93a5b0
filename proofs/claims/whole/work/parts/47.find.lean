theorem zs_near_l {P : Nat → Prop} {f : Nat → Nat} {M j : Nat} {r : Int32} (hn : zs_near P f M r) (hj : j < M) (hp : P j) (h5 : f j ≤ 5) (hmin : ∀ i, i < M → P i → f j ≤ f i) (hl : ∀ i, i < j → ¬ (P i ∧ f i = f j)) : r = nI j := by
  rcases hn with ⟨_, h⟩ | ⟨j2, a, b, c, d, g, i⟩
  · have := h j hj hp; omega
  · have e : f j2 = f j := Nat.le_antisymm (g j hj hp) (hmin j2 a c)
    rcases Nat.lt_trichotomy j j2 with q | q | q
    · have := i j q hp; omega
    · rw [q]; exact b
    · exact absurd ⟨c, e⟩ (hl j2 q)
theorem zp_find {S : sy_St} {e : Nat → Nat → Int32} {v : Nat → Int32} {wc M t c : Nat} (he : ze_C S e wc M) (hw : ze_W e wc M) (hv : zv_K S 45 = v) (hW : zv_W v M c) (ht : t < M) (hh : ¬ (S 45 9 = nI t ∨ S 45 10 = nI t)) : zz_wp (m_Chain_find 45 (nI t) S) (fun _ S1 => zf_o S S1 379 383 ∧ ∃ f, zg_f M t (zs_N e v) f ∧ ((zs_best (zs_Fi e v) f M = 99 ∧ S1 379 5 = -1) ∨ (zs_best (zs_Fi e v) f M ≤ 6 ∧ S1 379 5 = nI (zs_best (zs_Fi e v) f M) ∧ ∀ k, k < zs_best (zs_Fi e v) f M → S1 383 k = zs_pth e v f M (zs_best (zs_Fi e v) f M) (k + 1)))) := by
  have hM := hw.2.1
  have i6 : ∀ j, j < 6 → sy_in (nI j) 6 = True := fun j hj => eq_true (zz_in hj (by omega))
  have c6 : ∀ j, j < 6 → (nI j).toNatClampNeg = j := fun j hj => zz_cl (by omega)
  have n0 : vp_nar .boolean 0 = 0 := by decide
  have n1 : vp_nar .boolean 1 = 1 := by decide
  unfold m_Chain_find
  rw [zz_c, zp_isHolding (by omega), if_neg hh, zz_some, if_pos rfl, zz_b]
  obtain ⟨S5, hS5⟩ : ∃ S5, S5 = sy_up S 379 5 (-1) := ⟨_, rfl⟩
  rw [← hS5]
  have e5 : S5 379 5 = -1 := by rw [hS5, zz_up, if_pos rfl, if_pos rfl]
  have f5 : zf_o S S5 379 379 := by rw [hS5]; exact zf_up
  rw [if_neg (by rw [e5]; decide)]
  refine zz_loopX (ap := fun (k : zt_2) (u : Nat × sy_St) => k (nI t) (nI u.1) u.2) (fun u => M - u.1) (fun u => u.1 ≤ M ∧ zf_o S5 u.2 380 381 ∧ zs_mk u.2 e v u.1) ?_ sy_F (0, S5) (zz_F (by simp only; omega)) ⟨by simp only; omega, zf_refl, fun i hi => absurd hi (by simp only; omega)⟩
  rintro k ⟨i, S1⟩ ⟨hi, hf, hk⟩ hk1
  simp only at hi hf hk hk1 ⊢
  have fS : zf_o S S1 379 383 := zf_trans (zf_mono f5 (by omega) (by omega)) (zf_mono hf (by omega) (by omega))
  have he1 : ze_C S1 e wc M := zf_eC fS (by omega) he
  have hv1 : zv_K S1 45 = v := by rw [zf_K fS (by omega), hv]
  unfold m_Chain_find_B27
  rw [zz_i, fS 1 (by omega), he.2.1]
  refine ⟨fun hle => ?_, fun hnle => ?_⟩
  rotate_left
  · have hi2 := nI_lt_of hnle (by omega) (by omega)
    have put : ∀ b1 b2 : Int32, ((zs_tr e v i ∧ b1 = 1) ∨ (¬ zs_tr e v i ∧ b1 = 0)) → ((zs_Fi e v i ∧ b2 = 1) ∨ (¬ zs_Fi e v i ∧ b2 = 0)) → ∀ Q, (∀ S4, zf_o S5 S4 380 381 ∧ zs_mk S4 e v (i + 1) → zz_wp (k (nI t) (nI (i + 1)) S4) Q) → zz_wp (k (nI t) (nI (i + 1)) (sy_up (sy_up S1 380 i b1) 381 i b2)) Q := fun b1 b2 h1 h2 Q hQ => by
      refine hQ _ ⟨fun x hx => by rw [zz_up1 (by omega), zz_up1 (by omega), hf x hx], fun j hj => ?_⟩
      have a1 : sy_up (sy_up S1 380 i b1) 381 i b2 380 j = if j = i then b1 else S1 380 j := by
        rw [zz_up, if_neg (by decide), zz_up, if_pos rfl]
      have a2 : sy_up (sy_up S1 380 i b1) 381 i b2 381 j = if j = i then b2 else S1 381 j := by
        rw [zz_up, if_pos rfl, zz_up, if_neg (c := 381 = 380) (by decide)]
      rw [a1, a2]
      by_cases q : j = i
      · subst q; rw [if_pos rfl, if_pos rfl]; exact ⟨h1, h2⟩
      · rw [if_neg q, if_neg q]; exact hk j (by omega)
    have go := fun S4 (h : zf_o S5 S4 380 381 ∧ zs_mk S4 e v (i + 1)) => hk1 (i + 1, S4) ⟨by simp only; omega, h.1, h.2⟩ (by simp only; omega)
    obtain ⟨t1, t0⟩ := zp_isSome (k := 45) he1 hw hi2
    rw [hv1] at t1 t0
    have tt : ∃ b : Int32, m_Sky_isTrickedBySome 45 (nI i) S1 = some (b, S1) ∧ ((zs_tr e v i ∧ b = 1) ∨ (¬ zs_tr e v i ∧ b = 0)) ∧ vp_nar .boolean b = b := by
      by_cases q : zs_tr e v i
      · exact ⟨1, t1 q, Or.inl ⟨q, rfl⟩, n1⟩
      · exact ⟨0, t0 q, Or.inr ⟨q, rfl⟩, n0⟩
    obtain ⟨b, tb, hb, hnb⟩ := tt
    obtain ⟨S2, hS2⟩ : ∃ S2, S2 = sy_up S1 380 i b := ⟨_, rfl⟩
    have f2 : zf_o S1 S2 380 380 := by rw [hS2]; exact zf_up
    have e2 : S2 380 i = b := by rw [hS2, zz_up, if_pos rfl, if_pos rfl]
    have he2 : ze_C S2 e wc M := zf_eC f2 (by omega) he1
    have hv2 : zv_K S2 45 = v := by rw [zf_K f2 (by omega), hv1]
    have h4 : S2 45 9 = v 4 := by rw [← hv2]; rfl
    have h5 : S2 45 10 = v 5 := by rw [← hv2]; rfl
    obtain ⟨s1, s0⟩ := zp_isFatherHolding (k := 45) (c := c) he2 hw hi2 (by rw [hv2]; exact hW)
    rw [hv2] at s1 s0
    rw [tb, zz_c, zz_some, zz_g, zz_b, hnb]
    simp only [c6 i (by omega)]
    rw [← hS2, zz_c, zp_isHolding (by omega), zz_some, h4, h5]
    refine ⟨zz_in (by omega) (by omega), ?_⟩
    by_cases hho : v 4 = nI i ∨ v 5 = nI i
    · rw [if_pos hho, if_neg (by decide), zz_g, zz_b, zz_b, nI_1, n0]
      try simp only [c6 i (by omega)]
      rw [hS2]
      exact ⟨zz_in (by omega) (by omega), put b 0 hb (Or.inr ⟨fun z => z.1 hho, rfl⟩) _ go⟩
    · rw [if_neg hho, if_pos rfl, zz_g, zz_i]
      simp only [c6 i (by omega), e2]
      refine ⟨zz_in (by omega) (by omega), fun q => ?_, fun q => ?_⟩
      · have hnt : ¬ zs_tr e v i := by
          rcases hb with ⟨_, z⟩ | ⟨z, _⟩
          · rw [z] at q; exact absurd q (by decide)
          · exact z
        by_cases hs : zs_son e v i
        · rw [s1 hs, zz_c, zz_some, if_neg (by decide), zz_g, zz_b, zz_b, nI_1, n1, hS2]
          exact ⟨zz_in (by omega) (by omega), put b 1 hb (Or.inl ⟨⟨hho, Or.inr hs⟩, rfl⟩) _ go⟩
        · rw [s0 hs, zz_c, zz_some, if_pos rfl, zz_g, zz_b, zz_b, nI_1, n0, hS2]
          exact ⟨zz_in (by omega) (by omega), put b 0 hb (Or.inr ⟨fun z => z.2.elim hnt hs, rfl⟩) _ go⟩
      · have htr : zs_tr e v i := by
          rcases hb with ⟨z, _⟩ | ⟨_, z⟩
          · exact z
          · exact absurd z q
        rw [zz_g, zz_b, zz_b, nI_1, n1, hS2]
        exact ⟨zz_in (by omega) (by omega), put b 1 hb (Or.inl ⟨⟨hho, Or.inl htr⟩, rfl⟩) _ go⟩
  have := nI_eq_of hle hi (by omega)
  subst this
  clear hk1 hle
  rw [zz_c]
  refine zz_mono (zp_countSteps he1 hw hk ht) (fun _ S2 ⟨f2, f, hfg, hst⟩ => ?_)
  have he2 : ze_C S2 e wc i := zf_eC f2 (by omega) he1
  have hk2 : zs_mk S2 e v i := zs_mk_f (zf_mono f2 (by omega) (by omega)) hk
  rw [zz_c]
  refine zz_mono (zp_nextOf he2 hw hk2 hst (Or.inl rfl)) (fun r S3 ⟨e3, hnr⟩ => ?_)
  subst e3
  have e35 : S3 379 5 = -1 := by rw [f2 379 (by omega), hf 379 (by omega), e5]
  have fS3 : zf_o S S3 379 383 := zf_trans fS (zf_mono f2 (by omega) (by omega))
  obtain ⟨b1, b2, b3⟩ := zs_best_p (F := zs_Fi e v) (f := f) i
  rcases hnr with ⟨hr, hno⟩ | ⟨j, g1, g2, g3, g4, g5, g6⟩
  · rw [if_pos hr, zz_some]
    refine ⟨fS3, f, hfg, Or.inl ⟨?_, e35⟩⟩
    rcases Nat.lt_or_ge (zs_best (zs_Fi e v) f i) 99 with q | q
    · obtain ⟨y, y1, y2, y3⟩ := b2 q
      have := hno y y1 (zs_E_F.mpr y2)
      omega
    · omega
  have hbj : zs_best (zs_Fi e v) f i = f j + 1 := by
    have h1 := b3 j g1 (zs_E_F.mp g3)
    obtain ⟨y, y1, y2, y3⟩ := b2 (by omega)
    have := g5 y y1 (zs_E_F.mpr y2)
    omega
  have hpp := zs_pth_p hM hfg rfl (show zs_best (zs_Fi e v) f i < 99 by omega)
  generalize hL : zs_best (zs_Fi e v) f i = L at hbj hpp
  have hp1 : zs_pth e v f i L 1 = nI j := by
    obtain ⟨j1, q1, q2, q3, q4, q5⟩ := hpp 0 (by omega)
    rw [q2]
    have := zs_near_l (r := nI j) (Or.inr ⟨j, g1, rfl, g3, g4, g5, g6⟩) q1 q3 (by omega) (fun x hx hP => by have := g5 x hx hP; omega) (fun x hx z => q5 x hx ⟨z.1, by omega⟩)
    exact this.symm
  subst g2
  have hj6 : f j ≤ 5 ∧ S3 382 j = nI (f j) := by
    rcases hst j g1 with z | z
    · exact z
    · omega
  rw [if_neg (nI_ne1 (by omega)), zz_g, zz_b]
  simp only [c6 j (by omega), hj6.2, nI_1]
  rw [← hbj]
  refine ⟨zz_in (by omega) (by omega), ?_⟩
  obtain ⟨S4, hS4⟩ : ∃ S4, S4 = sy_up S3 379 5 (nI L) := ⟨_, rfl⟩
  rw [← hS4]
  have f4 : zf_o S3 S4 379 379 := by rw [hS4]; exact zf_up
  have e45 : S4 379 5 = nI L := by rw [hS4, zz_up, if_pos rfl, if_pos rfl]
  refine zz_loopX (ap := fun (k : zt_2) (u : Nat × Int32 × sy_St) => k u.2.1 (nI u.1) u.2.2) (fun u => 6 - u.1) (fun u => u.1 ≤ L ∧ (u.1 < L → u.2.1 = zs_pth e v f i L (u.1 + 1)) ∧ zf_o S4 u.2.2 383 383 ∧ ∀ x, x < u.1 → u.2.2 383 x = zs_pth e v f i L (x + 1)) ?_ sy_F (0, nI j, S4) (zz_F (by simp only; omega)) ⟨by simp only; omega, fun _ => hp1.symm, zf_refl, fun x hx => absurd hx (by simp only; omega)⟩
  rintro k2 ⟨n, at1, S6⟩ ⟨hn, hat, f6, h83⟩ hk3
  simp only at hn hat f6 h83 hk3 ⊢
  unfold m_Chain_find_B123
  rw [zz_i, f6 379 (by omega), e45]
  refine ⟨fun hle => ?_, fun hnle => ?_⟩
  · have := nI_eq_of hle hn (by omega)
    subst this
    rw [zz_some]
    refine ⟨zf_trans fS3 (zf_trans (zf_mono f4 (by omega) (by omega)) (zf_mono f6 (by omega) (by omega))), f, hfg, Or.inr ?_⟩
    rw [hL, f6 379 (by omega), e45]
    exact ⟨by omega, rfl, h83⟩
  have hn2 := nI_lt_of hnle (by omega) (by omega)
  obtain ⟨p, p1, p2, p3, p4, p5⟩ := hpp n hn2
  have hat := hat hn2
  rw [p2] at hat
  subst hat
  rw [show (6 : Int32) = nI 6 from rfl, if_neg (nI_ge (by omega) (by omega)), if_neg (nI_ne1 (by omega)), zz_g, zz_b]
  simp only [c6 n (by omega)]
  refine ⟨zz_in (by omega) (by omega), ?_⟩
  obtain ⟨S7, hS7⟩ : ∃ S7, S7 = sy_up S6 383 n (nI p) := ⟨_, rfl⟩
  rw [← hS7]
  have f7 : zf_o S6 S7 383 383 := by rw [hS7]; exact zf_up
  have f47 := zf_trans f6 f7
  have f37 : zf_o S3 S7 379 383 := zf_trans (zf_mono f4 (by omega) (by omega)) (zf_mono f47 (by omega) (by omega))
  rw [zz_c]
  refine zz_mono (zp_nextOf (v := v) (f := f) (zf_eC f37 (by omega) he2) hw (fun x hx => by rw [f47 380 (by omega), f47 381 (by omega), f4 380 (by omega), f4 381 (by omega)]; exact hk2 x hx) (fun x hx => by rw [f47 382 (by omega), f4 382 (by omega)]; exact hst x hx) (Or.inr ⟨p, p1, rfl⟩)) (fun r2 S8 ⟨e8, hnr2⟩ => ?_)
  subst e8
  rw [zz_b, nI_1]
  refine hk3 (n + 1, r2, S8) ⟨by simp only; omega, fun hlt => ?_, f47, fun x hx => ?_⟩ (by simp only; omega)
  · simp only at hlt ⊢
    obtain ⟨j1, q1, q2, q3, q4, q5⟩ := hpp (n + 1) hlt
    rw [q2]
    rw [p2] at q3 q5
    refine zs_near_l hnr2 q1 q3 (by omega) (fun x hx hP => ?_) (fun x hx z => q5 x hx ⟨z.1, by omega⟩)
    rcases hfg x hx with ⟨_, hd⟩ | ⟨hd, _⟩
    · rcases hfg p p1 with ⟨_, hd2⟩ | ⟨hd2, _⟩
      · have := zg_d_ge hd2 hx ((zs_E_N (by omega)).mp hP) hd
        omega
      · omega
    · omega
  · simp only at hx ⊢
    rw [hS7, zz_up, if_pos rfl]
    by_cases q : x = n
    · subst q; rw [if_pos rfl, p2]
    · rw [if_neg q]; exact h83 x (by omega)

theorem zo_chain (p q : Int32) : zo_ok (m_Top_chain p q) (m_Model_chain p q) := by
  intro S e wc M c hc g
  have gs := zo_same g
  have gg := g
  obtain ⟨⟨hw, hm, hcl⟩, hnow, -⟩ := g
  have hM := hw.2.1
  rcases zo_person p hw.2.1 with ⟨t, ht, rfl⟩ | h
  rotate_left
  · refine zo_two (r := -1000000001) (S1 := S) (S2 := S) ?_ ?_ gs
    · unfold m_Top_chain; rw [zp_isPerson_f hcl.2.1 h]; rfl
    · unfold m_Model_chain; rw [zq_isOne_f hm.2.1 hw.2.1 h]; rfl
  have m1 : ∀ x : Int32, ¬ x = -1 → ((x < 0 ∨ nI 0 ≤ x ∨ 6 ≤ x)) := fun x _ => by
    by_cases z : x < 0
    · exact Or.inl z
    · exact Or.inr (Or.inl (by rw [nI_0]; grind))
  by_cases hh : S 45 9 = nI t ∨ S 45 10 = nI t
  · have hh2 := (zv_hold_M gg _).mp hh
    unfold m_Top_chain
    rw [zz_c, zp_isPerson hcl.2.1 hM ht, zz_some, if_neg (by decide), zz_c]
    have hfind : zz_wp (m_Chain_find 45 (nI t) S) (fun _ S1 => zf_o S S1 379 379 ∧ S1 379 5 = 0) := by
      unfold m_Chain_find
      rw [zz_c, zp_isHolding (by omega), if_pos hh, zz_some, if_neg (by decide), zz_b]
      have e0 : sy_up S 379 5 0 379 5 = 0 := by rw [zz_up, if_pos rfl, if_pos rfl]
      rw [if_pos e0, zz_some]
      exact ⟨zf_up, e0⟩
    refine zz_mono hfind (fun _ S1 ⟨f1, e1⟩ => ?_)
    have hmod : ∀ S2, ze_M S2 e wc M → (nI t = S2 400 4 ∨ nI t = S2 400 5) → m_Model_chain (nI t) q S2 = some (if q = -1 then 0 else -1, S2) := fun S2 a b => by
      unfold m_Model_chain
      rw [zq_isOne_t a.2.1 hM ht]
      simp only [sy_c]
      rw [if_neg (by decide), zq_holds, if_pos b]
      simp only
      rw [if_neg (by decide)]
      by_cases z : q = -1
      · rw [if_pos z, if_pos z]
      · rw [if_neg z, if_neg z]
    have hm1 : ze_M S1 e wc M := zf_eM f1 (by omega) hm
    have hmd := hmod S1 hm1 (by rw [f1 400 (by omega)]; exact hh2)
    have inv : zi_Inv S1 (c + 100) := zo_scr gg (fun x hx => by rw [f1 x (by omega)])
    by_cases z : q = -1
    · rw [if_pos z, zz_some, hmd, zz_some, if_pos z]
      exact ⟨e1.symm, inv⟩
    · rw [if_neg z, zz_c]
      have hat : m_Chain_holderAt q S1 = some (-1, S1) := by
        unfold m_Chain_holderAt
        by_cases z2 : q < 0
        · rw [if_pos z2]
        · rw [if_neg z2, e1, if_pos (by grind)]
      rw [hat, zz_some, zz_some, hmd, zz_some, if_neg z]
      exact ⟨rfl, inv⟩
  have hh2 := fun z => hh ((zv_hold_M gg _).mpr z)
  unfold m_Top_chain
  rw [zz_c, zp_isPerson hcl.2.1 hM ht, zz_some, if_neg (by decide), zz_c]
  refine zz_mono (zp_find (c := c) hcl hw hnow.1 hnow.2 ht hh) (fun _ S1 ⟨f1, f, hfg, hr⟩ => ?_)
  have hm1 : ze_M S1 e wc M := zf_eM f1 (by omega) hm
  have v1 : zv_M S1 400 0 = zv_M S 400 0 := zf_M f1 (by omega)
  -- the reference from where the class stops
  have fin : ∀ r : Int32, r = zs_ans e (zv_M S 400 0) f M q → zz_wp (m_Model_chain (nI t) q S1) (fun r2 S2 => r2 = r ∧ zi_Inv S2 (c + 100)) := fun r hr2 => by
    refine zz_mono (zq_chain (c := c) (p := q) hm1 hw ht (by rw [v1]; exact hnow.2) (by rw [f1 400 (by omega)]; exact hh2)) (fun r2 S2 ⟨f2, f', hfg', e2⟩ => ⟨?_, zo_scr gg (fun x hx => by rw [f2 x (by omega), f1 x (by omega)])⟩)
    rw [v1] at e2 hfg'
    rw [e2, hr2]
    have ef : ∀ i, i < M → f' i = f i := fun i hi => zg_f_u hfg' hfg hi
    have eb : ∀ n, n ≤ M → zs_best (zs_Fi e (zv_M S 400 0)) f' n = zs_best (zs_Fi e (zv_M S 400 0)) f n := by
      intro n
      induction n with
      | zero => intro _; rfl
      | succ n ih =>
        intro hn
        have := ih (by omega)
        have h3 := ef n (by omega)
        by_cases z : zs_Fi e (zv_M S 400 0) n ∧ f n + 1 < zs_best (zs_Fi e (zv_M S 400 0)) f n
        · rw [zs_best_t z, zs_best_t (by rw [this, h3]; exact z), h3]
        · rw [zs_best_f z, zs_best_f (by rw [this, h3]; exact z), this]
    have ep : ∀ L n, zs_pth e (zv_M S 400 0) f' M L n = zs_pth e (zv_M S 400 0) f M L n := by
      intro L n
      induction n with
      | zero => rfl
      | succ n ih =>
        rw [zs_pth, zs_pth, ih]
        refine zs_least_u (zs_lst_s _ M) ?_
        rcases zs_lst_s (fun j => zs_E e (zv_M S 400 0) (zs_pth e (zv_M S 400 0) f M L n) j ∧ f j + 1 + n = L) M with ⟨j, a, b, d, k⟩ | ⟨a, b⟩
        · exact Or.inl ⟨j, a, b, ⟨d.1, by rw [ef j a]; exact d.2⟩, fun i hi z => k i hi ⟨z.1, by rw [← ef i (by omega)]; exact z.2⟩⟩
        · exact Or.inr ⟨a, fun j hj z => b j hj ⟨z.1, by rw [← ef j hj]; exact z.2⟩⟩
    unfold zs_ans
    rw [eb M (Nat.le_refl M), ep]
  unfold zs_ans at fin
  generalize hL : zs_best (zs_Fi e (zv_M S 400 0)) f M = L at fin hr
  rcases hr with ⟨h99, e5⟩ | ⟨h6, e5, e83⟩
  · have fin := fin (-1) (by rw [if_pos h99])
    by_cases z : q = -1
    · rw [if_pos z, zz_some, e5]; exact fin
    · rw [if_neg z, zz_c]
      have hat : m_Chain_holderAt q S1 = some (-1, S1) := by
        unfold m_Chain_holderAt
        by_cases z2 : q < 0
        · rw [if_pos z2]
        · rw [if_neg z2, e5, if_pos (by grind)]
      rw [hat, zz_some, zz_some]; exact fin
  · have fin : ∀ r : Int32, (r = if nI L ≤ q then -1 else if -1 ≤ q then if q = -1 then nI L else zs_pth e (zv_M S 400 0) f M L (q.toNatClampNeg + 1) else -1) → zz_wp (m_Model_chain (nI t) q S1) (fun r2 S2 => r2 = r ∧ zi_Inv S2 (c + 100)) := fun r hr => fin r (by rw [if_neg (show ¬ L = 99 by omega)]; exact hr)
    by_cases z : q = -1
    · rw [if_pos z, zz_some, e5]
      refine fin _ ?_
      have : ¬ nI L ≤ q := by rw [z]; exact fun y => absurd (nI_pos' (n := L) (by omega)) (by grind)
      rw [if_neg this, if_pos (by rw [z]; decide), if_pos z]
    · rw [if_neg z, zz_c]
      have hat : m_Chain_holderAt q S1 = some (if q < 0 then -1 else if nI L ≤ q then -1 else S1 383 q.toNatClampNeg, S1) := by
        unfold m_Chain_holderAt
        by_cases z2 : q < 0
        · rw [if_pos z2, if_pos z2]
        · rw [if_neg z2, if_neg z2, e5]
          by_cases z3 : nI L ≤ q
          · rw [if_pos z3, if_pos z3]
          · obtain ⟨K, hK, rfl⟩ := nI_of z2
            have : K < L := by
              rcases Nat.lt_or_ge K L with y | y
              · exact y
              · exact absurd (nI_le y (by omega)) z3
            rw [if_neg z3, if_neg z3, show (6 : Int32) = nI 6 from rfl, if_neg (nI_ge (by omega) (by omega)), sy_g, if_pos (zz_in (by omega) (by omega))]
      rw [hat, zz_some, zz_some]
      refine fin _ ?_
      by_cases z2 : q < 0
      · rw [if_pos z2]
        have a1 : ¬ nI L ≤ q := fun y => absurd (nI_pos' (n := L) (by omega)) (by grind)
        rw [if_neg a1, if_neg (by grind)]
      · rw [if_neg z2]
        by_cases z3 : nI L ≤ q
        · rw [if_pos z3, if_pos z3]
        · rw [if_neg z3, if_neg z3, if_pos (by grind), if_neg z]
          obtain ⟨K, hK, rfl⟩ := nI_of z2
          have : K < L := by
            rcases Nat.lt_or_ge K L with y | y
            · exact y
            · exact absurd (nI_le y (by omega)) z3
          rw [zz_cl (by omega)]
          exact e83 K this
