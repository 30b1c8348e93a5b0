/-! ===== edge ===== -/
theorem zp_edgeCopy {S : sy_St} {D : zx_D} (h : zx_dr S D) : zz_wp (m_Edge_copyFrom 1 37 S) (fun _ S1 => (∀ i, ¬ (1 ≤ i ∧ i ≤ 8) → S1 i = S i) ∧ ze_C S1 (zx_e D.2.1 D.2.2.2.1 D.2.2.2.2.2.1) D.1 D.2.2.1 ∧ S1 1 9 = D.2.2.2.2.2.2.2) := by
  obtain ⟨d1, d2, d3, d4, d5, d6, d7, d8, d9, d10⟩ := h
  have e0 : (0 : Int32).toNatClampNeg = 0 := rfl
  have e3 : (3 : Int32).toNatClampNeg = 3 := rfl
  have e6 : (6 : Int32).toNatClampNeg = 6 := rfl
  have e12 : (12 : Int32).toNatClampNeg = 12 := rfl
  unfold m_Edge_copyFrom
  simp only [zz_b, zz_some]
  obtain ⟨T, hT⟩ : ∃ T, T = sy_cp (sy_cp (sy_cp (sy_cp (sy_cp (sy_cp (sy_cp S (37 + 1) (1 + 1) 0 0 12) (37 + 2) (1 + 2) 0 0 6) (37 + 3) (1 + 3) 0 0 6) (37 + 4) (1 + 4) 0 0 6) (37 + 5) (1 + 5) 0 0 6) (37 + 6) (1 + 6) 0 0 6) (37 + 7) (1 + 7) 0 0 3 := ⟨_, rfl⟩
  rw [← hT]
  have to : ∀ i, ¬ (2 ≤ i ∧ i ≤ 8) → T i = S i := fun i hi => by
    funext x
    rw [hT]
    simp only [zz_cp, show ¬ i = 1 + 1 by omega, show ¬ i = 1 + 2 by omega, show ¬ i = 1 + 3 by omega, show ¬ i = 1 + 4 by omega, show ¬ i = 1 + 5 by omega, show ¬ i = 1 + 6 by omega, show ¬ i = 1 + 7 by omega, if_false]
  have t2 : ∀ x, x < 12 → T 2 x = S 38 x := fun x hx => by rw [hT]; simp [zz_cp, e0, e3, e6, e12, hx]
  have t3 : ∀ x, x < 6 → T 3 x = S 39 x := fun x hx => by rw [hT]; simp [zz_cp, e0, e3, e6, e12, hx]
  have t4 : ∀ x, x < 6 → T 4 x = S 40 x := fun x hx => by rw [hT]; simp [zz_cp, e0, e3, e6, e12, hx]
  have t5 : ∀ x, x < 6 → T 5 x = S 41 x := fun x hx => by rw [hT]; simp [zz_cp, e0, e3, e6, e12, hx]
  have t6 : ∀ x, x < 6 → T 6 x = S 42 x := fun x hx => by rw [hT]; simp [zz_cp, e0, e3, e6, e12, hx]
  have t7 : ∀ x, x < 6 → T 7 x = S 43 x := fun x hx => by rw [hT]; simp [zz_cp, e0, e3, e6, e12, hx]
  have t8 : ∀ x, x < 3 → T 8 x = S 44 x := fun x hx => by rw [hT]; simp [zz_cp, e0, e3, e6, e12, hx]
  have u37 : T 37 = S 37 := to 37 (by omega)
  have r8 : sy_up T 1 7 (T 37 7) 37 8 = S 37 8 := by rw [zz_up1 (by omega), u37]
  have r9 : sy_up (sy_up T 1 7 (T 37 7)) 1 8 (sy_up T 1 7 (T 37 7) 37 8) 37 9 = S 37 9 := by rw [zz_up1 (by omega), zz_up1 (by omega), u37]
  rw [r9, r8, u37]
  obtain ⟨U, hU⟩ : ∃ U, U = sy_up (sy_up (sy_up T 1 7 (S 37 7)) 1 8 (S 37 8)) 1 9 (S 37 9) := ⟨_, rfl⟩
  rw [← hU]
  have uo : ∀ i, i ≠ 1 → U i = T i := fun i a => by rw [hU, zz_up1 a, zz_up1 a, zz_up1 a]
  have u1 : ∀ j, U 1 j = if j = 9 then S 37 9 else if j = 8 then S 37 8 else if j = 7 then S 37 7 else T 1 j := fun j => by rw [hU, zz_upo, zz_upo, zz_upo]
  refine ⟨fun i hi => by rw [uo i (by omega), to i (by omega)], ⟨by rw [u1]; exact d1, by rw [u1]; exact d4, fun i hi => ?_, fun p hp => ?_, fun i hi => ?_⟩, by rw [u1]; exact d10⟩
  · rw [uo 2 (by omega), t2 i (by omega)]; exact d3 i hi
  · rw [uo 3 (by omega), uo 4 (by omega), uo 5 (by omega), uo 6 (by omega), uo 7 (by omega), t3 p (by omega), t4 p (by omega), t5 p (by omega), t6 p (by omega), t7 p (by omega)]
    exact d6 p hp
  · rw [uo 8 (by omega), t8 i hi]; exact d8 i hi
def zx_v0 (fr h : Int32) : Nat → Int32 := fun j => if j = 3 then fr else if j = 4 then h else if j = 5 then -1 else 0
theorem zp_begin {S : sy_St} {k pn : Nat} (hk : 8 < k) (h8 : S 1 8 = nI pn) (h6 : pn ≤ 6) : zz_wp (m_Sky_begin k S) (fun _ S1 => zf_o S S1 k (k + 4) ∧ zv_K S1 k = zx_v0 (S 1 9) (if pn = 0 then -1 else 0)) := by
  unfold m_Sky_begin
  refine zz_loopX (ap := fun (kk : zt_1) (u : Nat × sy_St) => kk (nI u.1) u.2) (fun u => 6 - u.1) (fun u => u.1 ≤ 6 ∧ zf_o S u.2 k (k + 4) ∧ ∀ x, x < u.1 → u.2 (k + 1) x = 0 ∧ u.2 (k + 2) x = 0 ∧ u.2 (k + 3) x = 0 ∧ u.2 (k + 4) x = 0) ?_ sy_F (0, S) (zz_F (by simp only; omega)) ⟨by simp only; omega, zf_refl, fun x hx => absurd hx (Nat.not_lt_zero _)⟩
  rintro kk ⟨i, T⟩ ⟨hi, hf, hz⟩ hkk
  simp only at hi hf hz hkk ⊢
  unfold m_Sky_begin_B2
  rw [zz_i]
  refine ⟨fun hle => ?_, fun hnle => ?_⟩
  · have hi6 : i = 6 := by
      rcases Nat.lt_or_ge i 6 with q | q
      · exact absurd hle (nI_ge (b := 6) q (by omega))
      · omega
    subst hi6
    have T1 : T 1 = S 1 := hf 1 (by omega)
    simp only [zz_b, zz_some]
    have e9 : sy_up (sy_up (sy_up T k 5 0) k 6 0) k 7 0 1 9 = S 1 9 := by rw [zz_up1 (by omega), zz_up1 (by omega), zz_up1 (by omega), T1]
    have e8 : sy_up (sy_up (sy_up (sy_up T k 5 0) k 6 0) k 7 0) k 8 (S 1 9) 1 8 = nI pn := by rw [zz_up1 (by omega), zz_up1 (by omega), zz_up1 (by omega), zz_up1 (by omega), T1, h8]
    rw [e9, e8]
    have hfin : ∀ h : Int32, zf_o S (sy_up (sy_up (sy_up (sy_up (sy_up (sy_up T k 5 0) k 6 0) k 7 0) k 8 (S 1 9)) k 9 h) k 10 (-1)) k (k + 4) ∧ zv_K (sy_up (sy_up (sy_up (sy_up (sy_up (sy_up T k 5 0) k 6 0) k 7 0) k 8 (S 1 9)) k 9 h) k 10 (-1)) k = zx_v0 (S 1 9) h := by
      intro h
      obtain ⟨U, hU⟩ : ∃ U, U = sy_up (sy_up (sy_up (sy_up (sy_up (sy_up T k 5 0) k 6 0) k 7 0) k 8 (S 1 9)) k 9 h) k 10 (-1) := ⟨_, rfl⟩
      rw [← hU]
      have uo : ∀ i, i ≠ k → U i = T i := fun i a => by rw [hU, zz_up1 a, zz_up1 a, zz_up1 a, zz_up1 a, zz_up1 a, zz_up1 a]
      have uk : ∀ j, U k j = if j = 10 then -1 else if j = 9 then h else if j = 8 then S 1 9 else if j = 7 then 0 else if j = 6 then 0 else if j = 5 then 0 else T k j := fun j => by rw [hU, zz_upo, zz_upo, zz_upo, zz_upo, zz_upo, zz_upo]
      refine ⟨fun i hi => by rw [uo i (by omega), hf i hi], zv_ext (fun j hj => ?_) (fun p hp => ?_) (fun p hp => ?_) (fun p hp => ?_) (fun p hp => ?_) (fun j hj => ?_)⟩
      · have : j = 0 ∨ j = 1 ∨ j = 2 ∨ j = 3 ∨ j = 4 ∨ j = 5 ∨ j = 6 := by omega
        rcases this with rfl | rfl | rfl | rfl | rfl | rfl | rfl
        · show U k 5 = _; rw [uk]; rfl
        · show U k 6 = _; rw [uk]; rfl
        · show U k 7 = _; rw [uk]; rfl
        · show U k 8 = _; rw [uk]; rfl
        · show U k 9 = _; rw [uk]; rfl
        · show U k 10 = _; rw [uk]; rfl
        · rfl
      · rw [zvK_t hp, uo (k + 1) (by omega), (hz p hp).1]; unfold zx_v0; rw [if_neg (by omega), if_neg (by omega), if_neg (by omega)]
      · rw [zvK_h hp, uo (k + 2) (by omega), (hz p hp).2.1]; unfold zx_v0; rw [if_neg (by omega), if_neg (by omega), if_neg (by omega)]
      · rw [zvK_u hp, uo (k + 3) (by omega), (hz p hp).2.2.1]; unfold zx_v0; rw [if_neg (by omega), if_neg (by omega), if_neg (by omega)]
      · rw [zvK_f hp, uo (k + 4) (by omega), (hz p hp).2.2.2]; unfold zx_v0; rw [if_neg (by omega), if_neg (by omega), if_neg (by omega)]
      · unfold zv_K zx_v0
        rw [if_neg (by omega), if_neg (by omega), if_neg (by omega), if_neg (by omega), if_neg (by omega), if_neg (by omega), if_neg (by omega), if_neg (by omega), if_neg (by omega), if_neg (by omega), if_neg (by omega), if_neg (by omega), if_neg (by omega), if_neg (by omega)]
    rw [zz_i]
    simp only [zz_b, zz_some]
    refine ⟨fun h => ?_, fun h => ?_⟩
    · have h0 : pn = 0 := by
        rcases Nat.eq_zero_or_pos pn with q | q
        · exact q
        · exact absurd h (nI_nle q (by omega))
      rw [if_pos h0]; exact hfin _
    · have h0 : ¬ pn = 0 := fun q => h (by rw [q]; decide)
      rw [if_neg h0]; exact hfin _
  · have hi2 : i < 6 := nI_lt_of (n := 6) hnle (by omega) (by omega)
    have ci : (nI i).toNatClampNeg = i := zz_cl (by omega)
    have gi : sy_in (nI i) 6 = True := eq_true (zz_in hi2 (by omega))
    simp only [zz_g, zz_b, gi, true_and, ci, nI_1]
    obtain ⟨U, hU⟩ : ∃ U, U = sy_up (sy_up (sy_up (sy_up T (k + 1) i 0) (k + 2) i 0) (k + 3) i 0) (k + 4) i 0 := ⟨_, rfl⟩
    rw [← hU]
    refine hkk (i + 1, U) ⟨by simp only; omega, fun x hx => by simp only; rw [hU, zz_up1 (by omega), zz_up1 (by omega), zz_up1 (by omega), zz_up1 (by omega), hf x hx], fun x hx => ?_⟩ (by simp only; omega)
    simp only at hx ⊢
    have u1 : U (k + 1) x = if x = i then 0 else T (k + 1) x := by rw [hU, zz_up1 (by omega), zz_up1 (by omega), zz_up1 (by omega), zz_upo]
    have u2 : U (k + 2) x = if x = i then 0 else T (k + 2) x := by rw [hU, zz_up1 (by omega), zz_up1 (by omega), zz_upo, zz_up1 (by omega)]
    have u3 : U (k + 3) x = if x = i then 0 else T (k + 3) x := by rw [hU, zz_up1 (by omega), zz_upo, zz_up1 (by omega), zz_up1 (by omega)]
    have u4 : U (k + 4) x = if x = i then 0 else T (k + 4) x := by rw [hU, zz_upo, zz_up1 (by omega), zz_up1 (by omega), zz_up1 (by omega)]
    rw [u1, u2, u3, u4]
    by_cases q : x = i
    · rw [if_pos q, if_pos q, if_pos q, if_pos q]; exact ⟨rfl, rfl, rfl, rfl⟩
    · rw [if_neg q, if_neg q, if_neg q, if_neg q]; exact hz x (by omega)
theorem zq_begin {S : sy_St} {pn : Nat} (h19 : S 392 19 = nI pn) (h6 : pn ≤ 6) : zz_wp (m_Model_begin S) (fun _ S1 => (∀ i, i ≠ 392 → i ≠ 400 → i ≠ 403 → S1 i = S i) ∧ (∀ j, j ≠ 26 → j ≠ 28 → j ≠ 30 → S1 392 j = S 392 j) ∧ S1 392 26 = 0 ∧ S1 392 28 = 0 ∧ S1 392 30 = 0 ∧ (∀ i, i < 2 → S1 403 i = 0) ∧ ∀ j, j < 31 → S1 400 j = if j = 6 then S 400 6 else if j = 4 then (if pn = 0 then -1 else 0) else if j = 5 then -1 else 0) := by
  unfold m_Model_begin
  refine zz_loopX (ap := fun (kk : zt_1) (u : Nat × sy_St) => kk (nI u.1) u.2) (fun u => 31 - u.1) (fun u => u.1 ≤ 31 ∧ zf_o S u.2 400 400 ∧ u.2 400 6 = S 400 6 ∧ ∀ x, x < u.1 → x ≠ 6 → u.2 400 x = 0) ?_ sy_F (0, S) (zz_F (by simp only; omega)) ⟨by simp only; omega, zf_refl, rfl, fun x hx => absurd hx (Nat.not_lt_zero _)⟩
  rintro kk ⟨i, T⟩ ⟨hi, hf, h6T, hz⟩ hkk
  simp only at hi hf h6T hz hkk ⊢
  unfold m_Model_begin_B2
  rw [zz_i]
  refine ⟨fun hle => ?_, fun hnle => ?_⟩
  · have hi31 : i = 31 := by
      rcases Nat.lt_or_ge i 31 with q | q
      · exact absurd hle (nI_ge (b := 31) q (by omega))
      · omega
    subst hi31
    have c4 : (4 : Int32).toNatClampNeg = 4 := rfl
    have c5 : (5 : Int32).toNatClampNeg = 5 := rfl
    have c0 : (0 : Int32).toNatClampNeg = 0 := rfl
    have c1 : (1 : Int32).toNatClampNeg = 1 := rfl
    have vb : vp_nar .boolean 0 = 0 := by decide
    have hJ : ∀ h : Int32, h = (if pn = 0 then -1 else 0) → zz_wp (m_Model_begin_J53 4 h T) (fun _ S1 => (∀ i, i ≠ 392 → i ≠ 400 → i ≠ 403 → S1 i = S i) ∧ (∀ j, j ≠ 26 → j ≠ 28 → j ≠ 30 → S1 392 j = S 392 j) ∧ S1 392 26 = 0 ∧ S1 392 28 = 0 ∧ S1 392 30 = 0 ∧ (∀ i, i < 2 → S1 403 i = 0) ∧ ∀ j, j < 31 → S1 400 j = if j = 6 then S 400 6 else if j = 4 then (if pn = 0 then -1 else 0) else if j = 5 then -1 else 0) := by
      intro h hh
      unfold m_Model_begin_J53
      rw [zz_g]
      refine ⟨by decide, ?_⟩
      simp only [zz_b, zz_some, c4, c5, c0, c1, vb]
      obtain ⟨U, hU⟩ : ∃ U, U = sy_up (sy_up (sy_up (sy_up (sy_up (sy_up (sy_up T 400 4 h) 400 5 (-1)) 403 0 0) 403 1 0) 392 26 0) 392 28 0) 392 30 0 := ⟨_, rfl⟩
      rw [← hU]
      have u392 : ∀ j, U 392 j = if j = 30 then 0 else if j = 28 then 0 else if j = 26 then 0 else T 392 j := fun j => by rw [hU, zz_upo, zz_upo, zz_upo, zz_up1 (by omega), zz_up1 (by omega), zz_up1 (by omega), zz_up1 (by omega)]
      have u400 : ∀ j, U 400 j = if j = 5 then -1 else if j = 4 then h else T 400 j := fun j => by rw [hU, zz_up1 (by omega), zz_up1 (by omega), zz_up1 (by omega), zz_up1 (by omega), zz_up1 (by omega), zz_upo, zz_upo]
      have u403 : ∀ j, U 403 j = if j = 1 then 0 else if j = 0 then 0 else T 403 j := fun j => by rw [hU, zz_up1 (by omega), zz_up1 (by omega), zz_up1 (by omega), zz_upo, zz_upo, zz_up1 (by omega), zz_up1 (by omega)]
      refine ⟨fun i a b c => ?_, fun j a b c => ?_, by rw [u392]; rfl, by rw [u392]; rfl, by rw [u392]; rfl, fun i hi => ?_, fun j hj => ?_⟩
      · rw [hU, zz_up1 a, zz_up1 a, zz_up1 a, zz_up1 c, zz_up1 c, zz_up1 b, zz_up1 b, hf i (by omega)]
      · rw [u392, if_neg c, if_neg b, if_neg a, hf 392 (by omega)]
      · rw [u403]
        have : i = 0 ∨ i = 1 := by omega
        rcases this with rfl | rfl <;> rfl
      · rw [u400]
        by_cases q6 : j = 6
        · rw [if_pos q6, if_neg (by omega), if_neg (by omega), q6, h6T]
        · rw [if_neg q6]
          by_cases q5 : j = 5
          · rw [if_pos q5, if_neg (by omega), if_pos q5]
          · rw [if_neg q5]
            by_cases q4 : j = 4
            · rw [if_pos q4, if_pos q4, hh]
            · rw [if_neg q4, if_neg q4, if_neg q5, hz j hj q6]
    rw [zz_i, hf 392 (by omega), h19]
    refine ⟨fun h => hJ _ ?_, fun h => hJ _ ?_⟩
    · rw [if_pos ((nI_eq (b := 0) (by omega) (by omega)).mp h)]
    · rw [if_neg (fun q => h (by rw [q]; rfl))]
  · have hi2 : i < 31 := nI_lt_of (n := 31) hnle (by omega) (by omega)
    have ci : (nI i).toNatClampNeg = i := zz_cl (by omega)
    have gi : sy_in (nI i) 31 = True := eq_true (zz_in hi2 (by omega))
    rw [zz_i]
    simp only [zz_g, zz_b, gi, true_and, ci, nI_1]
    refine ⟨fun h => ?_, fun h => ?_⟩
    · have hi6 : i = 6 := (nI_eq (b := 6) (by omega) (by omega)).mp h
      refine hkk (i + 1, sy_up T 400 i (T 400 i)) ⟨by simp only; omega, zf_trans hf zf_up, by simp only; rw [zz_upo, if_pos hi6.symm, hi6, h6T], fun x hx hx6 => ?_⟩ (by simp only; omega)
      simp only at hx ⊢
      rw [zz_upo, if_neg (by omega)]
      exact hz x (by omega) hx6
    · have hi6 : ¬ i = 6 := fun q => h (by rw [q]; rfl)
      refine hkk (i + 1, sy_up T 400 i 0) ⟨by simp only; omega, zf_trans hf zf_up, by simp only; rw [zz_upo, if_neg (by omega), h6T], fun x hx hx6 => ?_⟩ (by simp only; omega)
      simp only at hx ⊢
      rw [zz_upo]
      by_cases q : x = i
      · rw [if_pos q]
      · rw [if_neg q]; exact hz x (by omega) hx6
