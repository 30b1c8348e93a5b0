def zs_tr (e : Nat → Nat → Int32) (v : Nat → Int32) (j : Nat) : Prop := ∃ x, x < 3 ∧ zs_falls e v j x
def zs_N (e : Nat → Nat → Int32) (v : Nat → Int32) (i j : Nat) : Prop := ¬ j = i ∧ (zs_tr e v j ∨ e 2 (5 * j + 4) = nI i)
def zs_Fi (e : Nat → Nat → Int32) (v : Nat → Int32) (j : Nat) : Prop := ¬ (v 4 = nI j ∨ v 5 = nI j) ∧ (zs_tr e v j ∨ zs_son e v j)
theorem zq_fallsNow {S : sy_St} {e : Nat → Nat → Int32} {wc M j : Nat} (he : ze_M S e wc M) (hw : ze_W e wc M) (hj : j < M) (hf : ∃ f, f < 8 ∧ zv_M S 400 0 (25 + j) = nI f) : (zs_tr e (zv_M S 400 0) j → m_Model_fallsNow (nI j) S = some (1, S)) ∧ (¬ zs_tr e (zv_M S 400 0) j → m_Model_fallsNow (nI j) S = some (0, S)) := by
  obtain ⟨a1, a0⟩ := zq_falls (x := 0) he hw hj (by omega) hf
  obtain ⟨b1, b0⟩ := zq_falls (x := 1) he hw hj (by omega) hf
  obtain ⟨c1, c0⟩ := zq_falls (x := 2) he hw hj (by omega) hf
  unfold m_Model_fallsNow
  rw [show nI 0 = 0 from rfl] at a1 a0
  rw [show nI 1 = 1 from rfl] at b1 b0
  rw [show nI 2 = 2 from rfl] at c1 c0
  by_cases h0 : zs_falls e (zv_M S 400 0) j 0
  · refine ⟨fun _ => by rw [a1 h0]; rfl, fun z => absurd ⟨0, by omega, h0⟩ z⟩
  by_cases h1 : zs_falls e (zv_M S 400 0) j 1
  · refine ⟨fun _ => by rw [a0 h0]; simp only [sy_c, if_true]; rw [b1 h1]; rfl, fun z => absurd ⟨1, by omega, h1⟩ z⟩
  by_cases h2 : zs_falls e (zv_M S 400 0) j 2
  · refine ⟨fun _ => by rw [a0 h0]; simp only [sy_c, if_true]; rw [b0 h1]; simp only [if_true]; rw [c1 h2]; rfl, fun z => absurd ⟨2, by omega, h2⟩ z⟩
  refine ⟨fun ⟨x, hx, z⟩ => ?_, fun _ => by rw [a0 h0]; simp only [sy_c, if_true]; rw [b0 h1]; simp only [if_true]; rw [c0 h2]; rfl⟩
  have : x = 0 ∨ x = 1 ∨ x = 2 := by omega
  rcases this with rfl | rfl | rfl
  · exact absurd z h0
  · exact absurd z h1
  · exact absurd z h2
theorem zq_isNext {S : sy_St} {e : Nat → Nat → Int32} {wc M i j : Nat} (he : ze_M S e wc M) (hw : ze_W e wc M) (hi : i < M) (hj : j < M) (hf : ∃ f, f < 8 ∧ zv_M S 400 0 (25 + j) = nI f) : (zs_N e (zv_M S 400 0) i j → m_Model_isNext (nI i) (nI j) S = some (1, S)) ∧ (¬ zs_N e (zv_M S 400 0) i j → m_Model_isNext (nI i) (nI j) S = some (0, S)) := by
  have hM := hw.2.1
  obtain ⟨t1, t0⟩ := zq_fallsNow he hw hj hf
  unfold m_Model_isNext
  rw [if_neg (nI_ne1 (by omega))]
  by_cases e1 : j = i
  · subst e1
    rw [if_pos rfl]
    exact ⟨fun z => absurd rfl z.1, fun _ => rfl⟩
  · rw [if_neg (fun z => e1 ((nI_eq (by omega) (by omega)).mp z))]
    by_cases ht : zs_tr e (zv_M S 400 0) j
    · rw [t1 ht]
      exact ⟨fun _ => rfl, fun z => absurd ⟨e1, Or.inl ht⟩ z⟩
    · rw [t0 ht]
      simp only [sy_c, if_true, zq_fatherOf he hw hj]
      by_cases hfa : e 2 (5 * j + 4) = nI i
      · rw [if_pos hfa]
        exact ⟨fun _ => rfl, fun z => absurd ⟨e1, Or.inr hfa⟩ z⟩
      · rw [if_neg hfa]
        exact ⟨fun z => absurd z.2 (fun y => y.elim ht hfa), fun _ => rfl⟩
theorem zq_isFirst {S : sy_St} {e : Nat → Nat → Int32} {wc M j : Nat} (he : ze_M S e wc M) (hw : ze_W e wc M) (hj : j < M) (hf : ∃ f, f < 8 ∧ zv_M S 400 0 (25 + j) = nI f) : (zs_Fi e (zv_M S 400 0) j → m_Model_isNext (-1) (nI j) S = some (1, S)) ∧ (¬ zs_Fi e (zv_M S 400 0) j → m_Model_isNext (-1) (nI j) S = some (0, S)) := by
  have h45 : (nI j = S 400 4 ∨ nI j = S 400 5) ↔ (zv_M S 400 0 4 = nI j ∨ zv_M S 400 0 5 = nI j) := by
    rw [show zv_M S 400 0 4 = S 400 4 from rfl, show zv_M S 400 0 5 = S 400 5 from rfl]
    exact ⟨fun z => z.elim (fun y => Or.inl y.symm) (fun y => Or.inr y.symm), fun z => z.elim (fun y => Or.inl y.symm) (fun y => Or.inr y.symm)⟩
  obtain ⟨t1, t0⟩ := zq_fallsNow he hw hj hf
  obtain ⟨s1, s0⟩ := zq_isSon he hw hj
  unfold m_Model_isNext
  rw [if_pos rfl, zq_holds]
  by_cases hh : nI j = S 400 4 ∨ nI j = S 400 5
  · rw [if_pos hh]
    exact ⟨fun z => absurd (h45.mp hh) z.1, fun _ => rfl⟩
  · rw [if_neg hh]
    simp only [sy_c, if_true]
    have hh2 := fun z => hh (h45.mpr z)
    by_cases ht : zs_tr e (zv_M S 400 0) j
    · rw [t1 ht]
      exact ⟨fun _ => rfl, fun z => absurd ⟨hh2, Or.inl ht⟩ z⟩
    · rw [t0 ht]
      simp only [if_true]
      by_cases hs : zs_son e (zv_M S 400 0) j
      · rw [s1 ⟨hs, hh⟩]
        exact ⟨fun _ => rfl, fun z => absurd ⟨hh2, Or.inr hs⟩ z⟩
      · rw [s0 (fun z => hs z.1)]
        exact ⟨fun z => absurd z.2 (fun y => y.elim ht hs), fun _ => rfl⟩
/-! the reference's distances -/
def zs_far (S : sy_St) (M t : Nat) (N : Nat → Nat → Prop) (r : Nat) (f : Nat → Nat) : Prop := ∀ i, i < M → S 408 i = nI (f i) ∧ f i ≤ 99 ∧ (f i < 99 → zg_R M t N (f i) i) ∧ ∀ s, s ≤ r → zg_R M t N s i → f i ≤ s
theorem zq_layFar {S : sy_St} {e : Nat → Nat → Int32} {wc M t c : Nat} (hm : ze_M S e wc M) (hw : ze_W e wc M) (ht : t < M) (hW : zv_W (zv_M S 400 0) M c) : zz_wp (m_Model_layFar (nI t) S) (fun _ S1 => zf_o S S1 408 408 ∧ ∃ f, zg_f M t (zs_N e (zv_M S 400 0)) f ∧ ∀ i, i < M → S1 408 i = nI (f i)) := by
  have hM := hw.2.1
  generalize hv : zv_M S 400 0 = v at hW
  have nx : ∀ (S1 : sy_St) (i j : Nat), zf_o S S1 408 408 → i < M → j < M → (zs_N e v i j → m_Model_isNext (nI i) (nI j) S1 = some (1, S1)) ∧ (¬ zs_N e v i j → m_Model_isNext (nI i) (nI j) S1 = some (0, S1)) := fun S1 i j h hi hj => by
    have hv1 : zv_M S1 400 0 = v := by rw [zf_M h (by omega), hv]
    have := zq_isNext (zd_eM (fun x j d => by rw [h x (by omega)]) hm) hw hi hj (S := S1) (by rw [hv1]; exact hW.2.2.2.2.2 j hj)
    rw [hv1] at this
    exact this
  have i6 : ∀ j, j < 6 → sy_in (nI j) 6 = True := fun j hj => eq_true (zz_in hj (by omega))
  have c6 : ∀ j, j < 6 → (nI j).toNatClampNeg = j := fun j hj => zz_cl (by omega)
  unfold m_Model_layFar
  refine zz_loopX (ap := fun (k : zt_2) (u : Nat × sy_St) => k (nI t) (nI u.1) u.2) (fun u => M - u.1) (fun u => u.1 ≤ M ∧ zf_o S u.2 408 408 ∧ ∀ i, i < u.1 → u.2 408 i = nI (if i = t then 0 else 99)) ?_ sy_F (0, S) (zz_F (by simp only; omega)) ⟨by simp only; omega, zf_refl, fun i hi => absurd hi (by simp only; omega)⟩
  rintro k ⟨n, S1⟩ ⟨hn, hf, hx⟩ hk
  simp only at hn hf hx hk ⊢
  unfold m_Model_layFar_B2
  rw [zz_i, hf 392 (by omega), hm.2.1]
  refine ⟨fun hle => ?_, fun hnle => ?_⟩
  rotate_left
  · have hn2 := nI_lt_of hnle (by omega) (by omega)
    simp only [i6 n (by omega), zz_i, zz_g, zz_b, true_and, c6 n (by omega), nI_1]
    refine ⟨fun q => ?_, fun q => ?_⟩
    · have : n = t := (nI_eq (by omega) (by omega)).mp q
      refine hk (n + 1, sy_up S1 408 n 0) ⟨by simp only; omega, fun i h => by simp only; rw [zz_up1 (by omega), hf i h], fun i hi => ?_⟩ (by simp only; omega)
      simp only at hi ⊢
      rw [zz_up, if_pos rfl]
      by_cases z : i = n
      · rw [if_pos z, if_pos (by omega)]; rfl
      · rw [if_neg z]; exact hx i (by omega)
    · have : ¬ n = t := fun z => q (by rw [z])
      refine hk (n + 1, sy_up S1 408 n 99) ⟨by simp only; omega, fun i h => by simp only; rw [zz_up1 (by omega), hf i h], fun i hi => ?_⟩ (by simp only; omega)
      simp only at hi ⊢
      rw [zz_up, if_pos rfl]
      by_cases z : i = n
      · rw [if_pos z, if_neg (by omega)]; rfl
      · rw [if_neg z]; exact hx i (by omega)
  have := nI_eq_of hle hn (by omega)
  subst this
  clear hk hle
  refine zz_loopX (ap := fun (k : zt_1) (u : Nat × sy_St) => k (nI u.1) u.2) (fun u => n - u.1) (fun u => u.1 ≤ n ∧ zf_o S u.2 408 408 ∧ ∃ f, zs_far u.2 n t (zs_N e v) u.1 f) ?_ sy_F (0, S1) (zz_F (by simp only; omega)) ⟨by simp only; omega, hf, fun i => if i = t then 0 else 99, fun i hi => ⟨hx i hi, by simp only; split <;> omega, fun h => ?_, fun s hs h => ?_⟩⟩
  rotate_left
  · simp only at h ⊢
    by_cases z : i = t
    · rw [if_pos z]; exact z
    · rw [if_neg z] at h; omega
  · simp only at hs h ⊢
    obtain rfl : s = 0 := by omega
    have h2 : i = t := h
    rw [if_pos h2]; omega
  rintro k ⟨r, S2⟩ ⟨hr, hf2, hx2⟩ hk
  simp only at hr hf2 hx2 hk ⊢
  unfold m_Model_layFar_B35
  rw [zz_i, hf2 392 (by omega), hm.2.1]
  refine ⟨fun hle => ?_, fun hnle => ?_⟩
  · have := nI_eq_of hle hr (by omega)
    subst this
    obtain ⟨f, h⟩ := hx2
    rw [zz_some]
    exact ⟨hf2, f, zg_f_of hM ht (fun i hi => (h i hi).2.2.1) (fun i hi => (h i hi).2.2.2) (fun i hi => (h i hi).2.1), fun i hi => (h i hi).1⟩
  · have hr2 := nI_lt_of hnle (by omega) (by omega)
    -- one round: the first i are relaxed
    refine zz_loopX (ap := fun (k : zt_2) (u : Nat × sy_St) => k (nI r) (nI u.1) u.2) (fun u => n - u.1) (fun u => u.1 ≤ n ∧ zf_o S u.2 408 408 ∧ ∃ f, zs_far u.2 n t (zs_N e v) r f ∧ ∀ i, i < u.1 → zg_R n t (zs_N e v) (r + 1) i → f i ≤ r + 1) ?_ sy_F (0, S2) (zz_F (by simp only; omega)) ⟨by simp only; omega, hf2, hx2.choose, hx2.choose_spec, fun i hi => absurd hi (by simp only; omega)⟩
    rintro k2 ⟨i, S3⟩ ⟨hi, hf3, f, hx3, hy3⟩ hk2
    simp only at hi hf3 hx3 hy3 hk2 ⊢
    unfold m_Model_layFar_B45
    rw [zz_i, hf3 392 (by omega), hm.2.1]
    refine ⟨fun hle => ?_, fun hnle => ?_⟩
    · have := nI_eq_of hle hi (by omega)
      subst this
      rw [zz_b, nI_1]
      refine hk (r + 1, S3) ⟨by simp only; omega, hf3, f, fun x hx => ⟨(hx3 x hx).1, (hx3 x hx).2.1, (hx3 x hx).2.2.1, fun s hs h => ?_⟩⟩ (by simp only; omega)
      simp only at hs
      by_cases q : s = r + 1
      · subst q; exact hy3 x hx h
      · exact (hx3 x hx).2.2.2 s (by omega) h
    · have hi2 := nI_lt_of hnle (by omega) (by omega)
      refine zz_loopX (ap := fun (k : zt_3) (u : Nat × sy_St) => k (nI r) (nI i) (nI u.1) u.2) (fun u => n - u.1) (fun u => u.1 ≤ n ∧ zf_o S u.2 408 408 ∧ ∃ f, zs_far u.2 n t (zs_N e v) r f ∧ (∀ x, x < i → zg_R n t (zs_N e v) (r + 1) x → f x ≤ r + 1) ∧ ∀ j, j < u.1 → zs_N e v i j → zg_R n t (zs_N e v) r j → f i ≤ r + 1) ?_ sy_F (0, S3) (zz_F (by simp only; omega)) ⟨by simp only; omega, hf3, f, hx3, hy3, fun i hi => absurd hi (by simp only; omega)⟩
      rintro k3 ⟨j, S4⟩ ⟨hj, hf4, g, hx4, hy4, hz4⟩ hk3
      simp only at hj hf4 hx4 hy4 hz4 hk3 ⊢
      unfold m_Model_layFar_B56
      rw [zz_i, hf4 392 (by omega), hm.2.1]
      refine ⟨fun hle => ?_, fun hnle2 => ?_⟩
      · have := nI_eq_of hle hj (by omega)
        subst this
        rw [zz_b, nI_1]
        refine hk2 (i + 1, S4) ⟨by simp only; omega, hf4, g, hx4, fun x hx h => ?_⟩ (by simp only; omega)
        simp only at hx
        by_cases q : x = i
        · subst q
          rcases h with h | ⟨y, h1, h2, h3⟩
          · have := (hx4 x hi2).2.2.2 r (by omega) h; omega
          · exact hz4 y h1 h2 h3
        · exact hy4 x (by omega) h
      · have hj2 := nI_lt_of hnle2 (by omega) (by omega)
        obtain ⟨n1, n0⟩ := nx S4 i j hf4 hi2 hj2
        by_cases hN : zs_N e v i j
        rotate_left
        · rw [n0 hN, zz_c, zz_some, if_pos rfl, zz_b, nI_1]
          refine hk3 (j + 1, S4) ⟨by simp only; omega, hf4, g, hx4, hy4, fun y hy h1 h2 => ?_⟩ (by simp only; omega)
          simp only at hy
          by_cases q : y = j
          · subst q; exact absurd h1 hN
          · exact hz4 y (by omega) h1 h2
        have a := hx4 i hi2
        have b := hx4 j hj2
        rw [n1 hN, zz_c, zz_some, if_neg (by decide)]
        simp only [i6 i (by omega), i6 j (by omega), zz_g, zz_i, zz_b, true_and, c6 i (by omega), c6 j (by omega), a.1, b.1, nI_1]
        refine ⟨fun hle => ?_, fun hgt => ?_⟩
        · have hle := (nI_leI (by omega) (by omega)).mp hle
          refine hk3 (j + 1, S4) ⟨by simp only; omega, hf4, g, hx4, hy4, fun y hy h1 h2 => ?_⟩ (by simp only; omega)
          simp only at hy
          by_cases q : y = j
          · subst q
            have := b.2.2.2 r (by omega) h2
            omega
          · exact hz4 y (by omega) h1 h2
        · have hgt2 : g j + 1 < g i := by
            rcases Nat.lt_or_ge (g j + 1) (g i) with q | q
            · exact q
            · exact absurd (nI_le q (by omega)) hgt
          refine hk3 (j + 1, sy_up S4 408 i (nI (g j + 1))) ⟨by simp only; omega, fun x h => by simp only; rw [zz_up1 (by omega), hf4 x h], fun x => if x = i then g j + 1 else g x, fun x hx => ?_, fun x hx h => ?_, fun y hy h1 h2 => ?_⟩ (by simp only; omega)
          · simp only
            rw [zz_up, if_pos rfl]
            by_cases q : x = i
            · subst q
              rw [if_pos rfl, if_pos rfl]
              refine ⟨rfl, by have := a.2.1; omega, fun h => ?_, fun s hs h => ?_⟩
              · exact Or.inr ⟨j, hj2, hN, b.2.2.1 (by omega)⟩
              · have := a.2.2.2 s hs h; omega
            · rw [if_neg q, if_neg q]; exact hx4 x hx
          · simp only
            rw [if_neg (by omega)]; exact hy4 x hx h
          · simp only at hy ⊢
            rw [if_pos trivial]
            by_cases q : y = j
            · subst q; have := b.2.2.2 r (by omega) h2; omega
            · have := hz4 y (by omega) h1 h2; omega
