theorem zp_isHolding {S : sy_St} {k j : Nat} (h : j < 2147483648) : m_Sky_isHolding k (nI j) S = some (if S k 9 = nI j ∨ S k 10 = nI j then 1 else 0, S) := by
  have hne : ¬ nI j = -1 := fun q => by
    have := nI_pos' (n := j) (by omega)
    rw [q] at this
    exact absurd this (by decide)
  unfold m_Sky_isHolding
  grind
theorem zp_bear {S : sy_St} {e : Nat → Nat → Int32} {wc M k j : Nat} (hk : 8 < k) (he : ze_C S e wc M) (hw : ze_W e wc M) (hj : j < M) : zz_wp (m_Sky_bear k (nI j) S) (fun _ S1 => zf_o S S1 k (k + 4) ∧ zv_K S1 k = upd (upd (upd (upd (zv_K S k) (7 + j) (sy_min 20 (zv_K S k (7 + j) + 1))) (13 + j) (zv_K S k (13 + j) + 1)) (19 + j) (zv_K S k (19 + j) + 1)) 3 (if e 2 (5 * j) = 4 ∧ 0 < zv_K S k 3 then zv_K S k 3 - 1 else zv_K S k 3)) := by
  have h6 : j < 6 := by have := hw.2.1; omega
  have hp := nI_pos (n := j) (by omega)
  have hin : sy_in (nI j) 6 = True := eq_true (zz_in h6 (by omega))
  have hcl : (nI j).toNatClampNeg = j := zz_cl (by omega)
  have hkind := (he.2.2.2.1 j hj).1
  unfold m_Sky_bear
  simp only [zz_g, zz_b, zz_i, zz_some, hcl, hin, true_and]
  rw [zvK_t h6, zvK_h h6, zvK_u h6, zvK_3]
  have e3 : ∀ x y z : Int32, sy_up (sy_up (sy_up S (k + 1) j x) (k + 2) j y) (k + 3) j z 3 j = S 3 j := fun x y z => by simp only [zz_up]; grind
  have ek : ∀ x y z : Int32, ∀ i, sy_up (sy_up (sy_up S (k + 1) j x) (k + 2) j y) (k + 3) j z k i = S k i := fun x y z i => by simp only [zz_up]; grind
  have e2 : ∀ x : Int32, sy_up S (k + 1) j x (k + 2) j = S (k + 2) j := fun x => by simp only [zz_up]; grind
  have e2' : ∀ x y : Int32, sy_up (sy_up S (k + 1) j x) (k + 2) j y (k + 3) j = S (k + 3) j := fun x y => by simp only [zz_up]; grind
  simp only [e3, ek, e2, e2', hkind]
  have hf : ∀ x y z : Int32, zf_o S (sy_up (sy_up (sy_up S (k + 1) j x) (k + 2) j y) (k + 3) j z) k (k + 4) := fun x y z i hi => by
    rw [zz_up1 (by omega), zz_up1 (by omega), zz_up1 (by omega)]
  refine ⟨fun h4 => ⟨fun h8 => ⟨hf _ _ _, ?_⟩, fun h8 => ⟨fun i hi => ?_, ?_⟩⟩, fun h4 => ⟨hf _ _ _, ?_⟩⟩
  · rw [zvK_up_u h6, zvK_up_h h6, zvK_up_t h6, if_neg (by grind)]
    funext i
    by_cases h : i = 3
    · subst h; simp only [upd, if_true]; rw [if_neg (by omega), if_neg (by omega), if_neg (by omega), zvK_3]
    · simp only [upd, if_neg h]
  · rw [zz_up1 (by omega), hf _ _ _ i hi]
  · rw [show (8 : Nat) = 5 + 3 from rfl, zvK_up_s (by omega), zvK_up_u h6, zvK_up_h h6, zvK_up_t h6, if_pos ⟨h4, by grind⟩]
  · rw [zvK_up_u h6, zvK_up_h h6, zvK_up_t h6, if_neg (by grind)]
    funext i
    by_cases h : i = 3
    · subst h; simp only [upd, if_true]; rw [if_neg (by omega), if_neg (by omega), if_neg (by omega), zvK_3]
    · simp only [upd, if_neg h]
theorem zp_rest {S : sy_St} {k j : Nat} (h6 : j < 6) : zz_wp (m_Sky_rest k (nI j) S) (fun _ S1 => zf_o S S1 k (k + 4) ∧ zv_K S1 k = upd (upd (zv_K S k) (7 + j) (sy_max 0 (zv_K S k (7 + j) - 1))) (19 + j) 0) := by
  have hp := nI_pos (n := j) (by omega)
  have hin : sy_in (nI j) 6 = True := eq_true (zz_in h6 (by omega))
  have hcl : (nI j).toNatClampNeg = j := zz_cl (by omega)
  unfold m_Sky_rest
  simp only [zz_g, zz_b, zz_some, hcl, hin, true_and]
  rw [zvK_t h6]
  refine ⟨fun i hi => ?_, ?_⟩
  · rw [zz_up1 (by omega), zz_up1 (by omega)]
  · rw [zvK_up_u h6, zvK_up_t h6]
theorem zs_part_4 {e : Nat → Nat → Int32} {v : Nat → Int32} {low : Int32} {n : Nat} : zs_part e v low n 4 = v 4 := rfl
theorem zs_part_5 {e : Nat → Nat → Int32} {v : Nat → Int32} {low : Int32} {n : Nat} : zs_part e v low n 5 = v 5 := rfl
theorem zs_part_3 {e : Nat → Nat → Int32} {v : Nat → Int32} {low : Int32} {n : Nat} : zs_part e v low n 3 = zs_frt e v n := rfl
theorem zs_part_t {e : Nat → Nat → Int32} {v : Nat → Int32} {low : Int32} {n : Nat} (h : n < 6) : zs_part e v low n (7 + n) = v (7 + n) := by
  unfold zs_part; grind (splits := 30)
theorem zs_part_h {e : Nat → Nat → Int32} {v : Nat → Int32} {low : Int32} {n : Nat} (h : n < 6) : zs_part e v low n (13 + n) = v (13 + n) := by
  unfold zs_part; grind (splits := 30)
theorem zs_part_u {e : Nat → Nat → Int32} {v : Nat → Int32} {low : Int32} {n : Nat} (h : n < 6) : zs_part e v low n (19 + n) = v (19 + n) := by
  unfold zs_part; grind (splits := 30)
theorem zp_endHour {S : sy_St} {e : Nat → Nat → Int32} {wc M k : Nat} {low : Int32} (hk : 8 < k) (he : ze_C S e wc M) (hw : ze_W e wc M) : zz_wp (m_Sky_endHour k low S) (fun _ S1 => zf_o S S1 k (k + 4) ∧ zv_K S1 k = zs_end e (zv_K S k) low M) := by
  unfold m_Sky_endHour
  simp only [zz_b]
  have h6 := hw.2.1
  rw [show (0 : Int32) = nI 0 from rfl]
  refine zz_loop (fun i S1 => zf_o S S1 k (k + 4) ∧ zv_K S1 k = zs_part e (zv_K S k) low i) M ?_ ?_ M _ 0 _ (by omega) (zz_F (by omega)) ⟨?_, ?_⟩
  · intro kk i S1 hi ⟨hf, hv⟩ hkk
    have he1 := zf_eC hf hk he
    have h4 : S1 k 9 = zv_K S k 4 := by rw [← zs_part_4 (e := e) (v := zv_K S k) (low := low) (n := i), ← hv]; rfl
    have h5 : S1 k 10 = zv_K S k 5 := by rw [← zs_part_5 (e := e) (v := zv_K S k) (low := low) (n := i), ← hv]; rfl
    unfold m_Sky_endHour_B25
    rw [zz_i, he1.2.1]
    refine ⟨fun h => absurd h (nI_ge hi (by omega)), fun _ => ?_⟩
    rw [zz_c, zp_isHolding (by omega), zz_some, h4, h5, zz_i]
    by_cases hh : zv_K S k 4 = nI i ∨ zv_K S k 5 = nI i
    · rw [if_pos hh]
      refine ⟨fun q => absurd q (by decide), fun _ => ?_⟩
      rw [zz_c]
      refine zz_mono (zp_bear hk he1 hw hi) (fun r S2 ⟨hf2, hv2⟩ => ?_)
      simp only [zz_b, nI_1]
      refine hkk S2 ⟨zf_trans hf hf2, ?_⟩
      rw [hv2, zs_part_y (by omega) hh, hv, zs_part_t (by omega), zs_part_h (by omega), zs_part_u (by omega), zs_part_3]
    · rw [if_neg hh]
      refine ⟨fun _ => ?_, fun q => absurd rfl q⟩
      rw [zz_c]
      refine zz_mono (zp_rest (by omega)) (fun r S2 ⟨hf2, hv2⟩ => ?_)
      simp only [zz_b, nI_1]
      refine hkk S2 ⟨zf_trans hf hf2, ?_⟩
      rw [hv2, zs_part_n (by omega) hh, hv, zs_part_t (by omega)]
  · intro kk S1 ⟨hf, hv⟩
    have he1 := zf_eC hf hk he
    unfold m_Sky_endHour_B25
    rw [zz_i, he1.2.1]
    refine ⟨fun _ => ?_, fun h => absurd (nI_le (Nat.le_refl M) (by omega)) h⟩
    simp only [zz_b, zz_some]
    refine ⟨fun i hi => ?_, ?_⟩
    · rw [zz_up1 (by omega), hf i hi]
    · rw [show (5 : Nat) = 5 + 0 from rfl, zvK_up_s (by omega), hv, show S1 k (5 + 0) = zv_K S1 k 0 from rfl, hv]
      rfl
  · intro i hi
    rw [zz_up1 (by omega), zz_up1 (by omega)]
  · rw [show (7 : Nat) = 5 + 2 from rfl, zvK_up_s (by omega), show (6 : Nat) = 5 + 1 from rfl, zvK_up_s (by omega), zs_part_0]
    simp only [zz_up]
    rfl
/-- an hour passes: the whole of it -/
def zs_pass (e : Nat → Nat → Int32) (wc M : Nat) (less : Int32) (v : Nat → Int32) : Nat → Int32 := zs_end e v (zs_low e wc v (v 4) (v 5) less) M
theorem zp_passHour {S : sy_St} {e : Nat → Nat → Int32} {wc M k c : Nat} {less : Int32} (hk : 8 < k) (he : ze_C S e wc M) (hw : ze_W e wc M) (hv : zv_W (zv_K S k) M c) (hc : c < 2147483648) : zz_wp (m_Sky_passHour k less S) (fun _ S1 => zf_o S S1 k (k + 4) ∧ zv_K S1 k = zs_pass e wc M less (zv_K S k)) := by
  obtain ⟨h0, -, h4, h5, -, -⟩ := hv
  unfold m_Sky_passHour
  have h4' : S k 9 = -1 ∨ ∃ j, j < M ∧ S k 9 = nI j := by
    rcases h4 with ⟨-, h⟩ | ⟨j, hj, h⟩
    · exact Or.inl h
    · exact Or.inr ⟨j, hj, h⟩
  have h5' : S k 10 = -1 ∨ ∃ j, j < M ∧ S k 10 = nI j := h5
  rw [zz_c, zp_lowBehind he hw h0 hc h4' h5', zz_some, zz_c]
  refine zz_mono (zp_endHour hk he hw) (fun r S1 h => ?_)
  rw [zz_some]
  exact h

/-! ===== the same in the reference ===== -/
theorem zq_isOne_t {S : sy_St} {M j : Nat} (hM : S 392 19 = nI M) (h6 : M ≤ 6) (h : j < M) : m_Model_isOne (nI j) S = some (1, S) := by
  unfold m_Model_isOne m_Model_in
  rw [hM, show (1 : Int32) = nI 1 from rfl, pk_sub (by omega)]
  simp only [sy_c]
  rw [if_neg (nI_pos (by omega)), if_neg (nI_nlt (show j ≤ M - 1 by omega) (by omega))]
  rfl
theorem zq_kindOf {S : sy_St} {e : Nat → Nat → Int32} {wc M j : Nat} (he : ze_M S e wc M) (hw : ze_W e wc M) (h : j < M) : m_Model_kindOf (nI j) S = some (e 2 (5 * j), S) := by
  have h6 := hw.2.1
  unfold m_Model_kindOf
  rw [show (5 : Int32) = nI 5 from rfl, pk_mul]
  simp only [sy_b, sy_g]
  rw [if_pos (zz_in (by omega) (by omega)), zz_cl (by omega), he.2.2.2.1 _ (by omega)]
theorem zq_forceOf {S : sy_St} {e : Nat → Nat → Int32} {wc M a j : Nat} (he : ze_M S e wc M) (hw : ze_W e wc M) (h : j < M) : m_Model_forceOf a 31 (nI j) S = some (zs_force e (zv_M S a 0) j, S) := by
  have h6 : j < 6 := by have := hw.2.1; omega
  have hM := hw.2.1
  have hkind := zq_kindOf he hw h
  unfold m_Model_forceOf zs_force
  rw [show (5 : Int32) = nI 5 from rfl, pk_mul, show (1 : Int32) = nI 1 from rfl, nI_add, show (7 : Int32) = nI 7 from rfl, nI_add]
  have i1 : sy_in (nI (5 * j + 1)) 30 = True := eq_true (zz_in (by omega) (by omega))
  have i2 : sy_in (nI (7 + j)) 31 = True := eq_true (zz_in (by omega) (by omega))
  have i3 : sy_in 0 31 = True := eq_true (zz_in (c := 0) (by omega) (by omega))
  have i4 : sy_in (nI (19 + j)) 31 = True := eq_true (zz_in (by omega) (by omega))
  have i5 : sy_in 3 31 = True := eq_true (zz_in (c := 3) (by omega) (by omega))
  have a1 : (5 * nI j + 1 : Int32) = nI (5 * j + 1) := by rw [show (5 : Int32) = nI 5 from rfl, pk_mul, nI_1]
  have a2 : (19 + nI j : Int32) = nI (19 + j) := by rw [show (19 : Int32) = nI 19 from rfl, nI_add]
  have c1 : (nI (5 * j + 1)).toNatClampNeg = 5 * j + 1 := zz_cl (by omega)
  have c2 : (nI (7 + j)).toNatClampNeg = 7 + j := zz_cl (by omega)
  have c3 : (0 : Int32).toNatClampNeg = 0 := rfl
  have c4 : (nI (19 + j)).toNatClampNeg = 19 + j := zz_cl (by omega)
  have c5 : (3 : Int32).toNatClampNeg = 3 := rfl
  have v1 : zv_M S a 0 (7 + j) = S a (7 + j) := by rw [zvM_at (by omega) (by omega), Nat.zero_add]
  have v2 : zv_M S a 0 (19 + j) = S a (19 + j) := by rw [zvM_at (by omega) (by omega), Nat.zero_add]
  have v3 : zv_M S a 0 0 = S a 0 := rfl
  have v4 : zv_M S a 0 3 = S a 3 := rfl
  have p1 := he.2.2.2.1 (5 * j + 1) (by omega)
  simp only [sy_b, sy_g, i1, i2, i3, if_true, c1, c2, c3, p1, m_Model_forceOf_J29, m_Model_forceOf_J46, hkind, sy_c, a1, a2, i4, c4, i5, c5]
  rw [v1, v2, v3, v4]
  generalize e 2 (5 * j + 1) - S a (7 + j) / 2 = x
  generalize S a 0 - S a 0 / 3 * 3 = y
  generalize e 2 (5 * j) = kd
  generalize e 2 (5 * j + 1) = st
  generalize S a (19 + j) = u
  generalize S a 3 = f
  have hm : sy_max 0 x = if 0 ≤ x then x else 0 := by unfold sy_max; grind
  rw [hm]
  by_cases b1 : 0 ≤ x <;> by_cases b2 : y = 2 <;> simp only [b1, b2, if_true, if_false] <;> grind
