theorem zz_min_t {x y : Int32} (h : x ≤ y) : x = sy_min y x := by unfold sy_min; grind
theorem zz_min_f {x y : Int32} (h : ¬ x ≤ y) : y = sy_min y x := by unfold sy_min; grind
theorem zz_max_t {x y : Int32} (h : y ≤ x) : x = sy_max y x := by unfold sy_max; grind
theorem zz_max_f {x y : Int32} (h : ¬ y ≤ x) : y = sy_max y x := by unfold sy_max; grind
theorem zz_upo {S : sy_St} {a j x : Nat} {v : Int32} : sy_up S a j v a x = if x = j then v else S a x := by rw [zz_up, if_pos rfl]
theorem zvM_up0 {S : sy_St} {a j : Nat} {x : Int32} (h : j < 31) (h6 : j ≠ 6) : zv_M (sy_up S a j x) a 0 = upd (zv_M S a 0) j x := by
  have := zvM_up (S := S) (a := a) (o := 0) (x := x) h h6
  rwa [Nat.zero_add] at this
theorem zvM_0 {S : sy_St} {a j : Nat} (h : j < 31) (h6 : j ≠ 6) : S a j = zv_M S a 0 j := by rw [zvM_at h h6, Nat.zero_add]
theorem zq_weightOf {S : sy_St} {e : Nat → Nat → Int32} {wc M a c : Nat} (he : ze_M S e wc M) (hw : ze_W e wc M) (hv : ∃ t, t ≤ c ∧ zv_M S a 0 0 = nI t) (hc : c < 2147483648) : m_Model_weightOf a 31 S = some (zs_weight e wc (zv_M S a 0), S) := by
  obtain ⟨t, ht, hv⟩ := hv
  have h12 := hw.1
  unfold m_Model_weightOf zs_weight
  rw [he.1, hv]
  by_cases h0 : wc = 0
  · subst h0
    rw [if_pos (by decide), if_pos rfl]
  · rw [if_neg (nI_ne0 (by omega) (by omega)), if_neg h0, zz_cl (by omega)]
    have i3 : sy_in 0 31 = True := eq_true (zz_in (c := 0) (by omega) (by omega))
    have hv' : S a 0 = nI t := hv
    have hm : t % wc < wc := Nat.mod_lt _ (by omega)
    simp only [sy_b, sy_g, i3, if_true, show (0 : Int32).toNatClampNeg = 0 from rfl, hv']
    rw [if_pos (nI_ne0 (by omega) (by omega)), pk_rem (by omega) (by omega) (by omega), if_pos (zz_in (by omega) (by omega)), zz_cl (by omega), he.2.2.1 _ hm]
theorem zq_ne {j : Nat} (h : j < 2147483648) : ¬ nI j = -1 := fun q => by
  have := nI_pos' (n := j) (by omega)
  rw [q] at this
  exact absurd this (by decide)
theorem zq_forceOfAll {S : sy_St} {e : Nat → Nat → Int32} {wc M a : Nat} (he : ze_M S e wc M) (hw : ze_W e wc M) (h4 : zv_M S a 0 4 = -1 ∨ ∃ j, j < M ∧ zv_M S a 0 4 = nI j) (h5 : zv_M S a 0 5 = -1 ∨ ∃ j, j < M ∧ zv_M S a 0 5 = nI j) : m_Model_forceOfAll a 31 S = some (zs_forceI e (zv_M S a 0) (zv_M S a 0 4) + zs_forceI e (zv_M S a 0) (zv_M S a 0 5), S) := by
  have hM := hw.2.1
  have i4 : sy_in 4 31 = True := eq_true (zz_in (c := 4) (by omega) (by omega))
  have i5 : sy_in 5 31 = True := eq_true (zz_in (c := 5) (by omega) (by omega))
  unfold m_Model_forceOfAll zs_forceI
  simp only [m_Model_forceOfAll_J19, sy_g, i4, i5, if_true, show (4 : Int32).toNatClampNeg = 4 from rfl, show (5 : Int32).toNatClampNeg = 5 from rfl]
  have e4 : S a 4 = zv_M S a 0 4 := rfl
  have e5 : S a 5 = zv_M S a 0 5 := rfl
  rcases h4 with h4 | ⟨j, hj, h4⟩
  · rcases h5 with h5 | ⟨i, hi, h5⟩
    · simp only [e4, e5, h4, h5, if_true, Int32.zero_add]
    · simp only [e4, e5, h4, h5, if_true, if_neg (zq_ne (show i < 2147483648 by omega)), zq_forceOf he hw hi, sy_c, zz_cl (show i < 2147483648 by omega), Int32.zero_add]
  · rcases h5 with h5 | ⟨i, hi, h5⟩
    · simp only [e4, e5, h4, h5, if_true, if_neg (zq_ne (show j < 2147483648 by omega)), zq_forceOf he hw hj, sy_c, zz_cl (show j < 2147483648 by omega), Int32.add_zero]
    · simp only [e4, e5, h4, h5, if_neg (zq_ne (show j < 2147483648 by omega)), if_neg (zq_ne (show i < 2147483648 by omega)), zq_forceOf he hw hj, zq_forceOf he hw hi, sy_c, zz_cl (show j < 2147483648 by omega), zz_cl (show i < 2147483648 by omega)]
/-- the people's turn of an hour -/
theorem zq_passLoop {S : sy_St} {e : Nat → Nat → Int32} {wc M a : Nat} {v : Nat → Int32} {low : Int32} (ha : 399 < a) (he : ze_M S e wc M) (hw : ze_W e wc M) (hv : zv_M S a 0 = zs_part e v low 0) (ht : ∀ p, p < M → 0 ≤ v (7 + p) ∧ v (7 + p) ≤ 20) :
    zz_wp (sy_fix (fun _ _ => none) (m_Model_pass_B146 a 31) sy_F 0 S) (fun _ S1 => zf_o S S1 a a ∧ zv_M S1 a 0 = zs_end e v low M ∧ S1 a 6 = S a 6) := by
  have hM := hw.2.1
  have i0 : sy_in 0 31 = True := eq_true (zz_in (c := 0) (by omega) (by omega))
  have i3 : sy_in 3 31 = True := eq_true (zz_in (c := 3) (by omega) (by omega))
  have i4 : sy_in 4 31 = True := eq_true (zz_in (c := 4) (by omega) (by omega))
  have i5 : sy_in 5 31 = True := eq_true (zz_in (c := 5) (by omega) (by omega))
  rw [show (0 : Int32) = nI 0 from rfl]
  refine zz_loop (fun i S1 => zf_o S S1 a a ∧ zv_M S1 a 0 = zs_part e v low i ∧ S1 a 6 = S a 6) M ?_ ?_ M _ 0 _ (by omega) (zz_F (by omega)) ⟨zf_refl, hv, rfl⟩
  · intro kk i S1 hi ⟨hf, hv1, h6⟩ hkk
    have he1 : ze_M S1 e wc M := by
      unfold ze_M at he ⊢
      rw [hf 392 (by omega), hf 397 (by omega), hf 398 (by omega), hf 399 (by omega)]
      exact he
    have h4 : S1 a 4 = v 4 := by rw [show S1 a 4 = zv_M S1 a 0 4 from rfl, hv1]; rfl
    have h5 : S1 a 5 = v 5 := by rw [show S1 a 5 = zv_M S1 a 0 5 from rfl, hv1]; rfl
    have h3 : S1 a 3 = zs_frt e v i := by rw [show S1 a 3 = zv_M S1 a 0 3 from rfl, hv1]; rfl
    have h7 : S1 a (7 + i) = v (7 + i) := by rw [zvM_0 (S := S1) (a := a) (j := 7 + i) (by omega) (by omega), hv1, zs_part_t (by omega)]
    have h13 : S1 a (13 + i) = v (13 + i) := by rw [zvM_0 (S := S1) (a := a) (j := 13 + i) (by omega) (by omega), hv1, zs_part_h (by omega)]
    have h19 : S1 a (19 + i) = v (19 + i) := by rw [zvM_0 (S := S1) (a := a) (j := 19 + i) (by omega) (by omega), hv1, zs_part_u (by omega)]
    have a7 : (7 + nI i : Int32) = nI (7 + i) := by rw [show (7 : Int32) = nI 7 from rfl, nI_add]
    have a13 : (13 + nI i : Int32) = nI (13 + i) := by rw [show (13 : Int32) = nI 13 from rfl, nI_add]
    have a19 : (19 + nI i : Int32) = nI (19 + i) := by rw [show (19 : Int32) = nI 19 from rfl, nI_add]
    have c7 : (nI (7 + i)).toNatClampNeg = 7 + i := zz_cl (by omega)
    have c13 : (nI (13 + i)).toNatClampNeg = 13 + i := zz_cl (by omega)
    have c19 : (nI (19 + i)).toNatClampNeg = 19 + i := zz_cl (by omega)
    have g7 : sy_in (nI (7 + i)) 31 = True := eq_true (zz_in (by omega) (by omega))
    have g13 : sy_in (nI (13 + i)) 31 = True := eq_true (zz_in (by omega) (by omega))
    have g19 : sy_in (nI (19 + i)) 31 = True := eq_true (zz_in (by omega) (by omega))
    unfold m_Model_pass_B146
    rw [zz_i, he1.2.1]
    refine ⟨fun h => absurd h (nI_ge hi (by omega)), fun _ => ?_⟩
    simp only [zz_g, i4, i5, true_and, show (4 : Int32).toNatClampNeg = 4 from rfl, show (5 : Int32).toNatClampNeg = 5 from rfl, h4, h5]
    have hold : (v 4 = nI i ∨ v 5 = nI i) → zz_wp (m_Model_pass_J171 kk a 31 (nI i) S1) (fun _ S1 => zf_o S S1 a a ∧ zv_M S1 a 0 = zs_end e v low M ∧ S1 a 6 = S a 6) := by
      intro hh
      have hJ : ∀ t1 : Int32, t1 = sy_min 20 (v (7 + i) + 1) → zz_wp (m_Model_pass_J203 kk a 31 (nI i) (nI (7 + i)) t1 S1) (fun _ S1 => zf_o S S1 a a ∧ zv_M S1 a 0 = zs_end e v low M ∧ S1 a 6 = S a 6) := by
        intro t1 ht1
        have hk : ∀ x y z : Int32, m_Model_kindOf (nI i) (sy_up (sy_up (sy_up S1 a (7 + i) x) a (13 + i) y) a (19 + i) z) = some (e 2 (5 * i), sy_up (sy_up (sy_up S1 a (7 + i) x) a (13 + i) y) a (19 + i) z) := fun x y z => by
          refine zq_kindOf (wc := wc) (M := M) ?_ hw hi
          unfold ze_M at he1 ⊢
          rw [zz_up1 (by omega), zz_up1 (by omega), zz_up1 (by omega), zz_up1 (by omega), zz_up1 (by omega), zz_up1 (by omega), zz_up1 (by omega), zz_up1 (by omega), zz_up1 (by omega), zz_up1 (by omega), zz_up1 (by omega), zz_up1 (by omega)]
          exact he1
        have r3 : ∀ x y z : Int32, sy_up (sy_up (sy_up S1 a (7 + i) x) a (13 + i) y) a (19 + i) z a 3 = zs_frt e v i := fun x y z => by
          rw [zz_upo, if_neg (by omega), zz_upo, if_neg (by omega), zz_upo, if_neg (by omega), h3]
        have r13 : ∀ x : Int32, sy_up S1 a (7 + i) x a (13 + i) = v (13 + i) := fun x => by rw [zz_upo, if_neg (by omega), h13]
        have r19 : ∀ x y : Int32, sy_up (sy_up S1 a (7 + i) x) a (13 + i) y a (19 + i) = v (19 + i) := fun x y => by rw [zz_upo, if_neg (by omega), zz_upo, if_neg (by omega), h19]
        unfold m_Model_pass_J203
        simp only [zz_g, zz_b, zz_c, a13, a19, g7, g13, g19, i3, true_and, c7, c13, c19, show (3 : Int32).toNatClampNeg = 3 from rfl, r13, r19, hk, zz_some, zz_i, r3, nI_1]
        have hfin : ∀ w : Int32, w = (if e 2 (5 * i) = 4 ∧ 0 < zs_frt e v i then zs_frt e v i - 1 else zs_frt e v i) → zz_wp (kk (nI (i + 1)) (sy_up (sy_up (sy_up (sy_up S1 a (7 + i) t1) a (13 + i) (v (13 + i) + 1)) a (19 + i) (v (19 + i) + 1)) a 3 w)) (fun _ S1 => zf_o S S1 a a ∧ zv_M S1 a 0 = zs_end e v low M ∧ S1 a 6 = S a 6) := by
          intro w hw'
          refine hkk _ ⟨fun x hx => ?_, ?_, ?_⟩
          · rw [zz_up1 (by omega), zz_up1 (by omega), zz_up1 (by omega), zz_up1 (by omega), hf x hx]
          · rw [zvM_up0 (by omega) (by omega), zvM_up0 (by omega) (by omega), zvM_up0 (by omega) (by omega), zvM_up0 (by omega) (by omega), hv1, zs_part_y (by omega) hh, ht1, hw']
          · rw [zz_upo, if_neg (by omega), zz_upo, if_neg (by omega), zz_upo, if_neg (by omega), zz_upo, if_neg (by omega), h6]
        refine ⟨fun h4 => ⟨fun h8 => hfin _ ?_, fun h8 => hfin _ ?_⟩, fun h4 => hfin _ ?_⟩
        · grind
        · grind
        · grind
      unfold m_Model_pass_J171
      simp only [zz_g, zz_b, zz_i, a7, g7, true_and, c7, h7]
      have hb := ht i hi
      refine ⟨fun h => hJ _ ?_, fun h => hJ _ ?_⟩
      · unfold sy_min; grind
      · unfold sy_min; grind
    rw [zz_i]
    refine ⟨fun h => hold (Or.inl h.symm), fun h4n => ?_⟩
    rw [zz_g, zz_i]
    refine ⟨trivial, ?_⟩
    refine ⟨fun h => hold (Or.inr h.symm), fun h5n => ?_⟩
    have hh : ¬ (v 4 = nI i ∨ v 5 = nI i) := fun h => h.elim (fun q => h4n q.symm) (fun q => h5n q.symm)
    have hJ : ∀ t2 : Int32, v (7 + i) - t2 = sy_max 0 (v (7 + i) - 1) → zz_wp (m_Model_pass_J279 kk a 31 (nI i) (nI (7 + i)) (v (7 + i)) t2 S1) (fun _ S1 => zf_o S S1 a a ∧ zv_M S1 a 0 = zs_end e v low M ∧ S1 a 6 = S a 6) := by
      intro t2 ht2
      unfold m_Model_pass_J279
      simp only [zz_g, zz_b, a19, g7, g19, true_and, c7, c19, nI_1]
      refine hkk _ ⟨fun x hx => ?_, ?_, ?_⟩
      · rw [zz_up1 (by omega), zz_up1 (by omega), hf x hx]
      · rw [zvM_up0 (by omega) (by omega), zvM_up0 (by omega) (by omega), hv1, zs_part_n (by omega) hh, ht2]
      · rw [zz_upo, if_neg (by omega), zz_upo, if_neg (by omega), h6]
    simp only [zz_b, zz_g, zz_i, a7, g7, true_and, c7, h7]
    have hb := ht i hi
    refine ⟨fun h => hJ _ ?_, fun h => hJ _ ?_⟩
    · unfold sy_max; grind
    · unfold sy_max; grind
  · intro kk S1 ⟨hf, hv1, h6⟩
    unfold m_Model_pass_B146
    rw [zz_i, hf 392 (by omega), he.2.1]
    refine ⟨fun _ => ?_, fun h => absurd (nI_le (Nat.le_refl M) (by omega)) h⟩
    simp only [zz_g, zz_b, zz_some, i0, true_and, show (0 : Int32).toNatClampNeg = 0 from rfl]
    refine ⟨fun x hx => ?_, ?_, ?_⟩
    · rw [zz_up1 (by omega), hf x hx]
    · rw [zvM_up0 (by omega) (by omega), show S1 a 0 = zv_M S1 a 0 0 from rfl, hv1]
      rfl
    · rw [zz_upo, if_neg (by omega), h6]

theorem zq_pass {S : sy_St} {e : Nat → Nat → Int32} {wc M a c : Nat} {less : Int32} (ha : 399 < a) (he : ze_M S e wc M) (hw : ze_W e wc M) (h0 : 0 < M) (hv : zv_W (zv_M S a 0) M c) (hc : c < 2147483648) : zz_wp (m_Model_pass a 31 less S) (fun _ S1 => zf_o S S1 a a ∧ zv_M S1 a 0 = zs_pass e wc M less (zv_M S a 0) ∧ S1 a 6 = S a 6) := by
  obtain ⟨hv0, hvl, hv4, hv5, hv7, -⟩ := hv
  have hM := hw.2.1
  have i1 : sy_in 1 31 = True := eq_true (zz_in (c := 1) (by omega) (by omega))
  have i2 : sy_in 2 31 = True := eq_true (zz_in (c := 2) (by omega) (by omega))
  have i4 : sy_in 4 31 = True := eq_true (zz_in (c := 4) (by omega) (by omega))
  have i5 : sy_in 5 31 = True := eq_true (zz_in (c := 5) (by omega) (by omega))
  have c1 : (1 : Int32).toNatClampNeg = 1 := rfl
  have c2 : (2 : Int32).toNatClampNeg = 2 := rfl
  have c4 : (4 : Int32).toNatClampNeg = 4 := rfl
  have c5 : (5 : Int32).toNatClampNeg = 5 := rfl
  obtain ⟨h, hh, hv4⟩ : ∃ h, h < M ∧ zv_M S a 0 4 = nI h := by
    rcases hv4 with ⟨q, -⟩ | q
    · omega
    · exact q
  generalize hV : zv_M S a 0 = v at hv0 hvl hv4 hv5 hv7 ⊢
  -- LOW is settled: what is left
  have tail : ∀ S1 : sy_St, zf_o S S1 a a → S1 a 6 = S a 6 → zv_M S1 a 0 = upd v 1 (zs_low e wc v (v 4) (v 5) less) → zz_wp (m_Model_pass_J116 a 31 S1) (fun _ S1 => zf_o S S1 a a ∧ zv_M S1 a 0 = zs_pass e wc M less v ∧ S1 a 6 = S a 6) := by
    intro S1 hf h6 hv1
    have he1 : ze_M S1 e wc M := by
      unfold ze_M at he ⊢
      rw [hf 392 (by omega), hf 397 (by omega), hf 398 (by omega), hf 399 (by omega)]
      exact he
    have r1 : S1 a 1 = zs_low e wc v (v 4) (v 5) less := by rw [show S1 a 1 = zv_M S1 a 0 1 from rfl, hv1]; rfl
    have r2 : S1 a 2 = v 2 := by rw [show S1 a 2 = zv_M S1 a 0 2 from rfl, hv1]; rfl
    have fin : ∀ w : Int32, w = sy_min 999999999 (v 2 + zs_low e wc v (v 4) (v 5) less) → zz_wp (sy_fix (fun _ _ => none) (m_Model_pass_B146 a 31) sy_F 0 (sy_up S1 a 2 w)) (fun _ S1 => zf_o S S1 a a ∧ zv_M S1 a 0 = zs_pass e wc M less v ∧ S1 a 6 = S a 6) := by
      intro w hw'
      have he2 : ze_M (sy_up S1 a 2 w) e wc M := by
        unfold ze_M at he1 ⊢
        rw [zz_up1 (by omega), zz_up1 (by omega), zz_up1 (by omega), zz_up1 (by omega)]
        exact he1
      refine zz_mono (zq_passLoop (v := v) (low := zs_low e wc v (v 4) (v 5) less) ha he2 hw ?_ hv7) (fun r S2 ⟨q1, q2, q3⟩ => ⟨fun x hx => ?_, q2, ?_⟩)
      · rw [zvM_up0 (by omega) (by omega), hv1, zs_part_0, hw']
      · rw [q1 x hx, zz_up1 (by omega), hf x hx]
      · rw [q3, zz_upo, if_neg (by omega), h6]
    unfold m_Model_pass_J116
    simp only [zz_g, zz_b, zz_i, i1, i2, true_and, c1, c2, r1, r2]
    refine ⟨fun h => fin _ ?_, fun h => fin _ ?_⟩
    · exact zz_min_t h
    · exact zz_min_f h
  -- the dwarf
  have dwarf : ∀ (S1 : sy_St) (l : Int32), zf_o S S1 a a → S1 a 6 = S a 6 → zv_M S1 a 0 = upd v 1 l → zs_low e wc v (v 4) (v 5) less = (if v 5 = -1 ∧ ¬ v 4 = -1 ∧ e 2 (5 * (v 4).toNatClampNeg) = 1 then sy_max 2 l else l) → zz_wp (m_Model_pass_J87 a 31 S1) (fun _ S1 => zf_o S S1 a a ∧ zv_M S1 a 0 = zs_pass e wc M less v ∧ S1 a 6 = S a 6) := by
    intro S1 l hf h6 hv1 hl
    have he1 : ze_M S1 e wc M := by
      unfold ze_M at he ⊢
      rw [hf 392 (by omega), hf 397 (by omega), hf 398 (by omega), hf 399 (by omega)]
      exact he
    have r1 : S1 a 1 = l := by rw [show S1 a 1 = zv_M S1 a 0 1 from rfl, hv1]; rfl
    have r4 : S1 a 4 = nI h := by rw [show S1 a 4 = zv_M S1 a 0 4 from rfl, hv1, ← hv4]; rfl
    have r5 : S1 a 5 = v 5 := by rw [show S1 a 5 = zv_M S1 a 0 5 from rfl, hv1]; rfl
    rw [hv4, zz_cl (by omega)] at hl
    have hne := zq_ne (show h < 2147483648 by omega)
    unfold m_Model_pass_J87
    simp only [zz_g, zz_b, zz_i, zz_c, i1, i4, i5, true_and, c1, c4, c5, r4, r5, zq_kindOf he1 hw hh, zz_some, r1]
    have same : zs_low e wc v (v 4) (v 5) less = l → zz_wp (m_Model_pass_J116 a 31 S1) (fun _ S1 => zf_o S S1 a a ∧ zv_M S1 a 0 = zs_pass e wc M less v ∧ S1 a 6 = S a 6) := fun q => tail S1 hf h6 (by rw [q, hv1])
    rw [← hv4] at hl
    refine ⟨fun b5 => ⟨fun k1 => ⟨fun l2 => same ?_, fun l2 => tail _ (fun x hx => ?_) ?_ ?_⟩, fun k1 => same ?_⟩, fun b5 => same ?_⟩
    · rw [hl, if_pos ⟨b5, by rw [hv4]; exact hne, k1⟩]; exact (zz_max_t l2).symm
    · rw [zz_up1 (by omega), hf x hx]
    · rw [zz_upo, if_neg (by omega), h6]
    · rw [zvM_up0 (by omega) (by omega), hv1, hl, if_pos ⟨b5, by rw [hv4]; exact hne, k1⟩]
      rw [← zz_max_f l2]
      funext x
      by_cases hx : x = 1
      · subst hx; simp only [upd, if_true]
      · simp only [upd, if_neg hx]
    · rw [hl, if_neg (fun q => k1 q.2.2)]
    · rw [hl, if_neg (fun q => b5 q.1)]
  have hfoa := zq_forceOfAll (a := a) he hw (by rw [hV]; exact Or.inr ⟨h, hh, hv4⟩) (by rw [hV]; exact hv5)
  have hwe := zq_weightOf (a := a) he hw (by rw [hV]; exact hv0) hc
  rw [hV] at hfoa hwe
  have r1 : S a 1 = v 1 := by rw [← hV]; rfl
  have main : ∀ w : Int32, w = sy_max 0 (zs_weight e wc v - less) → zz_wp (m_Model_pass_J17 a 31 w S) (fun _ S1 => zf_o S S1 a a ∧ zv_M S1 a 0 = zs_pass e wc M less v ∧ S1 a 6 = S a 6) := by
    intro w hw'
    have low : zs_low e wc v (v 4) (v 5) less = (if v 5 = -1 ∧ ¬ v 4 = -1 ∧ e 2 (5 * (v 4).toNatClampNeg) = 1 then sy_max 2 (if zs_forceI e v (v 4) + zs_forceI e v (v 5) < w then sy_min 99 (v 1 + w - (zs_forceI e v (v 4) + zs_forceI e v (v 5))) else if w < zs_forceI e v (v 4) + zs_forceI e v (v 5) then sy_max 0 (v 1 - 1) else v 1) else (if zs_forceI e v (v 4) + zs_forceI e v (v 5) < w then sy_min 99 (v 1 + w - (zs_forceI e v (v 4) + zs_forceI e v (v 5))) else if w < zs_forceI e v (v 4) + zs_forceI e v (v 5) then sy_max 0 (v 1 - 1) else v 1)) := by
      rw [hw']; rfl
    unfold m_Model_pass_J17 m_Model_pass_J86 m_Model_pass_J59
    simp only [zz_g, zz_b, zz_i, zz_c, i1, true_and, c1, hfoa, zz_some, r1]
    generalize zs_forceI e v (v 4) + zs_forceI e v (v 5) = f at low ⊢
    have up : ∀ x : Int32, zf_o S (sy_up S a 1 x) a a ∧ sy_up S a 1 x a 6 = S a 6 ∧ zv_M (sy_up S a 1 x) a 0 = upd v 1 x := fun x => ⟨zf_up, by rw [zz_upo, if_neg (by omega)], by rw [zvM_up0 (by omega) (by omega), hV]⟩
    refine ⟨fun hle => ⟨fun hge => ?_, fun hng => ⟨fun hl0 => ?_, fun hl0 => ?_⟩⟩, fun hnle => ⟨fun hl9 => ?_, fun hl9 => ?_⟩⟩
    · have e1 : ¬ f < w := by clear low up; grind
      have e2 : ¬ w < f := by clear low up; grind
      rw [if_neg e1, if_neg e2] at low
      refine dwarf S (v 1) zf_refl rfl ?_ low
      rw [hV]
      funext x
      by_cases hx : x = 1
      · subst hx; simp only [upd, if_true]
      · simp only [upd, if_neg hx]
    · have e1 : ¬ f < w := by clear low up; grind
      have e2 : w < f := by clear low up; grind
      rw [if_neg e1, if_pos e2] at low
      refine dwarf _ _ (up _).1 (up _).2.1 (up _).2.2 ?_
      rw [low]
      have : sy_max 0 (v 1 - 1) = 0 := (zz_max_f (by clear low up; grind)).symm
      rw [this]
    · have e1 : ¬ f < w := by clear low up; grind
      have e2 : w < f := by clear low up; grind
      rw [if_neg e1, if_pos e2] at low
      refine dwarf _ _ (up _).1 (up _).2.1 (up _).2.2 ?_
      rw [low]
      have : sy_max 0 (v 1 - 1) = v 1 - 1 := (zz_max_t (by clear low up; grind)).symm
      rw [this]
    · have e1 : f < w := by clear low up; grind
      rw [if_pos e1] at low
      refine dwarf _ _ (up _).1 (up _).2.1 (up _).2.2 ?_
      rw [low, ← zz_min_t hl9]
    · have e1 : f < w := by clear low up; grind
      rw [if_pos e1] at low
      refine dwarf _ _ (up _).1 (up _).2.1 (up _).2.2 ?_
      rw [low, ← zz_min_f hl9]
  unfold m_Model_pass
  simp only [zz_c, hwe, zz_some, zz_b, zz_i]
  refine ⟨fun h => main _ ?_, fun h => main _ ?_⟩
  · exact zz_max_t h
  · exact zz_max_f h

/-! what an hour keeps -/
theorem zs_half {x : Int32} (h : 0 ≤ x) (h2 : x ≤ 20) : 0 ≤ x / 2 ∧ x / 2 ≤ 10 := by
  obtain ⟨j, hj, rfl⟩ := nI_of2 (M := 20) (n := 20) rfl (by grind) h2
  rw [show (2 : Int32) = nI 2 from rfl, pk_div (by omega) (by omega) (by omega)]
  exact ⟨nI_pos' (by omega), by rw [show (10 : Int32) = nI 10 from rfl]; exact nI_le (by omega) (by omega)⟩
theorem zs_force_b {e : Nat → Nat → Int32} {v : Nat → Int32} {wc M p : Nat} (hw : ze_W e wc M) (hp : p < M) (ht : 0 ≤ v (7 + p) ∧ v (7 + p) ≤ 20) : 0 ≤ zs_force e v p ∧ zs_force e v p ≤ 22 := by
  obtain ⟨-, -, s1, s2⟩ := hw.2.2.2 p hp
  obtain ⟨h1, h2⟩ := zs_half ht.1 ht.2
  have a1 : 0 ≤ sy_max 0 (e 2 (5 * p + 1) - v (7 + p) / 2) ∧ sy_max 0 (e 2 (5 * p + 1) - v (7 + p) / 2) ≤ 20 := by unfold sy_max; grind
  obtain ⟨h3, h4⟩ := zs_half a1.1 a1.2
  unfold zs_force
  generalize sy_max 0 (e 2 (5 * p + 1) - v (7 + p) / 2) = a at a1 h3 h4 ⊢
  simp only
  grind
theorem zs_forceI_b {e : Nat → Nat → Int32} {v : Nat → Int32} {wc M : Nat} {x : Int32} (hw : ze_W e wc M) (ht : ∀ p, p < M → 0 ≤ v (7 + p) ∧ v (7 + p) ≤ 20) (hx : x = -1 ∨ ∃ p, p < M ∧ x = nI p) : 0 ≤ zs_forceI e v x ∧ zs_forceI e v x ≤ 22 := by
  unfold zs_forceI
  rcases hx with rfl | ⟨p, hp, rfl⟩
  · rw [if_pos rfl]; decide
  · have := hw.2.1
    rw [if_neg (zq_ne (by omega)), zz_cl (by omega)]
    exact zs_force_b hw hp (ht p hp)
def zs_l0 (l w f : Int32) : Int32 := if f < w then sy_min 99 (l + w - f) else if w < f then sy_max 0 (l - 1) else l
theorem zs_l0_b {l w f : Int32} (hl : 0 ≤ l ∧ l ≤ 99) (hw : 0 ≤ w ∧ w ≤ 30) (hf : 0 ≤ f ∧ f ≤ 44) : 0 ≤ zs_l0 l w f ∧ zs_l0 l w f ≤ 99 := by
  unfold zs_l0
  by_cases a : f < w
  · rw [if_pos a]
    have h1 : 0 ≤ l + w ∧ l + w ≤ 129 := by grind
    have h2 : 0 ≤ l + w - f := by
      have : f ≤ l + w := by grind
      generalize l + w = z at *
      grind
    generalize l + w - f = z at h2 ⊢
    unfold sy_min; grind
  · rw [if_neg a]
    unfold sy_max; grind
theorem zs_w_b {w less : Int32} (hw : 0 ≤ w ∧ w ≤ 30) (hl : 0 ≤ less ∧ less ≤ 30) : 0 ≤ sy_max 0 (w - less) ∧ sy_max 0 (w - less) ≤ 30 := by unfold sy_max; grind
theorem zs_2_b {l : Int32} (hl : 0 ≤ l ∧ l ≤ 99) : 0 ≤ sy_max 2 l ∧ sy_max 2 l ≤ 99 := by unfold sy_max; grind
theorem zs_low_b {e : Nat → Nat → Int32} {v : Nat → Int32} {wc M c : Nat} {h b less : Int32} (hw : ze_W e wc M) (hv : zv_W v M c) (hl : 0 ≤ less ∧ less ≤ 30) (hh : h = -1 ∨ ∃ p, p < M ∧ h = nI p) (hb : b = -1 ∨ ∃ p, p < M ∧ b = nI p) : 0 ≤ zs_low e wc v h b less ∧ zs_low e wc v h b less ≤ 99 := by
  obtain ⟨-, hvl, -, -, hv7, -⟩ := hv
  have f1 := zs_forceI_b hw hv7 hh
  have f2 := zs_forceI_b hw hv7 hb
  have w1 : 0 ≤ zs_weight e wc v ∧ zs_weight e wc v ≤ 30 := by
    unfold zs_weight
    by_cases h0 : wc = 0
    · rw [if_pos h0]; decide
    · rw [if_neg h0]
      exact hw.2.2.1 _ (Nat.mod_lt _ (by omega))
  have l2 := zs_l0_b hvl (zs_w_b w1 hl) (show 0 ≤ zs_forceI e v h + zs_forceI e v b ∧ zs_forceI e v h + zs_forceI e v b ≤ 44 by grind)
  rw [show zs_low e wc v h b less = if b = -1 ∧ ¬ h = -1 ∧ e 2 (5 * h.toNatClampNeg) = 1 then sy_max 2 (zs_l0 (v 1) (sy_max 0 (zs_weight e wc v - less)) (zs_forceI e v h + zs_forceI e v b)) else (zs_l0 (v 1) (sy_max 0 (zs_weight e wc v - less)) (zs_forceI e v h + zs_forceI e v b)) from rfl]
  generalize zs_l0 (v 1) (sy_max 0 (zs_weight e wc v - less)) (zs_forceI e v h + zs_forceI e v b) = l' at l2 ⊢
  split
  · exact zs_2_b l2
  · exact l2
theorem zs_end_W {e : Nat → Nat → Int32} {v : Nat → Int32} {low : Int32} {M c : Nat} (hM : M ≤ 6) (hv : zv_W v M c) (hl : 0 ≤ low ∧ low ≤ 99) : zv_W (zs_end e v low M) M (c + 1) := by
  obtain ⟨⟨t, ht, hv0⟩, hvl, hv4, hv5, hv7, hv25⟩ := hv
  refine ⟨⟨t + 1, by omega, ?_⟩, hl, hv4, hv5, fun p hp => ?_, fun p hp => ?_⟩
  · show v 0 + 1 = _
    rw [hv0, nI_1]
  · have h := hv7 p hp
    have e1 : zs_end e v low M (7 + p) = if v 4 = nI p ∨ v 5 = nI p then sy_min 20 (v (7 + p) + 1) else sy_max 0 (v (7 + p) - 1) := by
      unfold zs_end upd zs_part
      rw [if_neg (by omega), if_neg (by omega), if_neg (by omega), if_neg (by omega), if_neg (by omega), if_pos (by omega), if_pos (by omega), Nat.add_sub_cancel_left]
    rw [e1]
    generalize v (7 + p) = x at h ⊢
    unfold sy_min sy_max
    grind
  · have e1 : zs_end e v low M (25 + p) = v (25 + p) := by
      unfold zs_end upd zs_part
      rw [if_neg (by omega), if_neg (by omega), if_neg (by omega), if_neg (by omega), if_neg (by omega), if_neg (by omega), if_neg (by omega), if_neg (by omega)]
    rw [e1]
    exact hv25 p hp
theorem zv_hold {v : Nat → Int32} {M c : Nat} (hv : zv_W v M c) : v 4 = -1 ∨ ∃ p, p < M ∧ v 4 = nI p := by
  rcases hv.2.2.1 with ⟨-, h⟩ | h
  · exact Or.inl h
  · exact Or.inr h
theorem zs_pass_W {e : Nat → Nat → Int32} {v : Nat → Int32} {wc M c : Nat} {less : Int32} (hw : ze_W e wc M) (hv : zv_W v M c) (hl : 0 ≤ less ∧ less ≤ 30) : zv_W (zs_pass e wc M less v) M (c + 1) :=
  zs_end_W hw.2.1 hv (zs_low_b hw hv hl (zv_hold hv) hv.2.2.2.1)
