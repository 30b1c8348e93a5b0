/-! ===== what each owes ===== -/
theorem nI_ne1 {q : Nat} (h : q < 2147483648) : ¬ nI q = -1 := fun z => by
  have := nI_pos' (n := q) (by omega)
  rw [z] at this
  exact absurd this (by decide)
def zs_sum (v : Nat → Int32) : Nat → Int32
  | 0 => 0
  | n + 1 => zs_sum v n + v (13 + n)
def zs_owe (v : Nat → Int32) (M p : Nat) : Int32 := v (13 + p) * nI M - zs_sum v M
theorem nI_lt_of {i n : Nat} (h : ¬ nI n ≤ nI i) (hi : i < 2 ^ 31) (_hn : n < 2 ^ 31) : i < n := by
  rcases Nat.lt_or_ge i n with q | q
  · exact q
  · exact absurd (nI_le q (by omega)) h
theorem nI_eq_of {i n : Nat} (h : nI n ≤ nI i) (hi : i ≤ n) (hn : n < 2 ^ 31) : i = n := by
  rcases Nat.lt_or_ge i n with q | q
  · exact absurd h (nI_ge q (by omega))
  · omega
theorem zp_owe {S : sy_St} {k M p : Nat} (hM : S 1 8 = nI M) (h6 : M ≤ 6) (hp : p < M) : m_Debts_ofOne k (nI p) S = some (zs_owe (zv_K S k) M p, S) := by
  refine zz_det ?_
  unfold m_Debts_ofOne
  refine zz_loopX (ap := fun (k : zt_3) (t : Nat × Int32) => k (nI p) t.2 (nI t.1) S) (fun t => M - t.1) (fun t => t.1 ≤ M ∧ t.2 = zs_sum (zv_K S k) t.1) ?_ sy_F (0, 0) (zz_F (by simp only; omega)) ⟨by simp only; omega, rfl⟩
  rintro kk ⟨i, s⟩ ⟨hi, hs⟩ hk
  simp only at hi hs hk ⊢
  subst hs
  unfold m_Debts_ofOne_B5
  rw [zz_i, hM]
  refine ⟨fun hle => ?_, fun hn => ?_⟩
  · have := nI_eq_of hle hi (by omega)
    subst this
    rw [zz_g, zz_some, zz_cl (by omega), ← zvK_h (S := S) (k := k) (by omega)]
    exact ⟨zz_in (by omega) (by omega), rfl, rfl⟩
  · have hi2 := nI_lt_of hn (by omega) (by omega)
    rw [zz_g, zz_b, zz_b, zz_cl (by omega), nI_1, ← zvK_h (S := S) (k := k) (by omega)]
    exact ⟨zz_in (by omega) (by omega), hk (i + 1, _) ⟨by simp only; omega, rfl⟩ (by simp only; omega)⟩
theorem zq_owe {S : sy_St} {M p : Nat} (hM : S 392 19 = nI M) (h6 : M ≤ 6) (hp : p < M) : m_Model_owesOf (nI p) S = some (zs_owe (zv_M S 400 0) M p, S) := by
  have d13 : ∀ j : Nat, (13 + nI j : Int32) = nI (13 + j) := fun j => by rw [show (13 : Int32) = nI 13 from rfl, nI_add]
  have cl : ∀ i, i < 31 → (nI i).toNatClampNeg = i := fun i hi => zz_cl (by omega)
  refine zz_det ?_
  unfold m_Model_owesOf
  refine zz_loopX (ap := fun (k : zt_3) (t : Nat × Int32) => k (nI p) t.2 (nI t.1) S) (fun t => M - t.1) (fun t => t.1 ≤ M ∧ t.2 = zs_sum (zv_M S 400 0) t.1) ?_ sy_F (0, 0) (zz_F (by simp only; omega)) ⟨by simp only; omega, rfl⟩
  rintro kk ⟨i, s⟩ ⟨hi, hs⟩ hk
  simp only at hi hs hk ⊢
  subst hs
  unfold m_Model_owesOf_B4
  rw [zz_i, hM]
  refine ⟨fun hle => ?_, fun hn => ?_⟩
  · have := nI_eq_of hle hi (by omega)
    subst this
    rw [zz_b, zz_g, zz_some, d13, cl _ (by omega), Int32.mul_comm]
    refine ⟨zz_in (by omega) (by omega), ?_, rfl⟩
    rw [zs_owe, zvM_at (by omega) (by omega), Nat.zero_add]
  · have hi2 := nI_lt_of hn (by omega) (by omega)
    rw [zz_b, zz_g, zz_b, zz_b, d13, cl _ (by omega), nI_1]
    exact ⟨zz_in (by omega) (by omega), hk (i + 1, _) ⟨by simp only; omega, by simp only; rw [zs_sum, zvM_at (by omega) (by omega), Nat.zero_add]⟩ (by simp only; omega)⟩
theorem zo_owes (p : Int32) : zo_ok (m_Top_owes p) (m_Model_owes p) := by
  intro S e wc M c hc g
  have gs := zo_same g
  obtain ⟨⟨hw, hm, hcl⟩, hnow, -⟩ := g
  rcases zo_person p hw.2.1 with ⟨j, hj, rfl⟩ | h
  · refine zo_two (r := zs_owe (zv_M S 400 0) M j) (S1 := S) (S2 := S) ?_ ?_ gs
    · unfold m_Top_owes
      simp only [sy_c, zp_isPerson hcl.2.1 hw.2.1 hj, zp_owe hcl.2.1 hw.2.1 hj, hnow.1]; rfl
    · unfold m_Model_owes
      simp only [sy_c, zq_isOne_t hm.2.1 hw.2.1 hj, zq_owe hm.2.1 hw.2.1 hj]; rfl
  · refine zo_two (r := -1000000001) (S1 := S) (S2 := S) ?_ ?_ gs
    · unfold m_Top_owes; rw [zp_isPerson_f hcl.2.1 h]; rfl
    · unfold m_Model_owes; rw [zq_isOne_f hm.2.1 hw.2.1 h]; rfl
/-! a line: from a person up its fathers -/
theorem zs_line {S S2 : sy_St} {e : Nat → Nat → Int32} {wc M j : Nat} (he : ze_C S e wc M) (hm : ze_M S2 e wc M) (hw : ze_W e wc M) (hj : j < M) : ∀ q, q < M →
    (∃ b : Int32, (b = 0 ∨ b = 1) ∧ (∀ n fuel, n + q < 6 → q + 2 < fuel → sy_fix (fun _ _ _ _ => none) m_Debts_isOfLine_B5 fuel (nI j) (nI q) (nI n) S = some (b, S)) ∧
     ∃ y : Int32, (b = 1 → y = nI j) ∧ (b = 0 → y = -1) ∧ ∀ (kk : zt_3) (Q : Int32 → sy_St → Prop) (y2 y3 : Int32) (fuel : Nat), q + 2 < fuel → zz_wp (m_Model_sons_J49 kk (nI j) y2 y3 y S2) Q → zz_wp (sy_fix (fun _ _ _ _ _ => none) (m_Model_sons_B26 kk) fuel (nI j) y2 y3 (nI q) S2) Q) := by
  intro q
  induction q using Nat.strongRecOn with
  | ind q ih =>
    intro hq
    have hM := hw.2.1
    have hne : ¬ nI q = -1 := nI_ne1 (by omega)
    by_cases hqj : q = j
    · subst hqj
      refine ⟨1, Or.inr rfl, fun n fuel hn hf => ?_, nI q, fun _ => rfl, fun z => absurd z (by decide), fun kk Q y2 y3 fuel hf z => ?_⟩
      · obtain ⟨f, rfl⟩ : ∃ f, fuel = f + 1 := ⟨fuel - 1, by omega⟩
        show m_Debts_isOfLine_B5 _ _ _ _ _ = _
        unfold m_Debts_isOfLine_B5
        rw [show (6 : Int32) = nI 6 from rfl, if_neg (nI_ge (by omega) (by omega)), zp_isPerson he.2.1 hM hq]
        simp only [sy_c]
        rw [if_neg (by decide), if_pos trivial]
      · obtain ⟨f, rfl⟩ : ∃ f, fuel = f + 1 := ⟨fuel - 1, by omega⟩
        show zz_wp (m_Model_sons_B26 _ _ _ _ _ _ _) _
        unfold m_Model_sons_B26
        simp only [hne, if_false, if_true]
        exact z
    · have hqj2 : ¬ nI q = nI j := fun z => hqj ((nI_eq (by omega) (by omega)).mp z)
      have hqj3 : ¬ nI j = nI q := fun z => hqj2 z.symm
      have hstep : ∀ n fuel, n + q < 6 → sy_fix (fun _ _ _ _ => none) m_Debts_isOfLine_B5 (fuel + 1) (nI j) (nI q) (nI n) S = sy_fix (fun _ _ _ _ => none) m_Debts_isOfLine_B5 fuel (nI j) (e 2 (5 * q + 4)) (nI (n + 1)) S := fun n fuel hn => by
        show m_Debts_isOfLine_B5 _ _ _ _ _ = _
        unfold m_Debts_isOfLine_B5
        rw [show (6 : Int32) = nI 6 from rfl, if_neg (nI_ge (by omega) (by omega)), zp_isPerson he.2.1 hM hq]
        simp only [sy_c]
        rw [if_neg (by decide), if_neg hqj2, sy_g, if_pos (zz_in (by omega) (by omega)), zz_cl (by omega), (he.2.2.2.1 q hq).2.2.2.2, nI_1]
        rfl
      have hstep2 : ∀ (kk : zt_3) (y2 y3 : Int32) (fuel : Nat), sy_fix (fun _ _ _ _ _ => none) (m_Model_sons_B26 kk) (fuel + 1) (nI j) y2 y3 (nI q) S2 = sy_fix (fun _ _ _ _ _ => none) (m_Model_sons_B26 kk) fuel (nI j) y2 y3 (e 2 (5 * q + 4)) S2 := fun kk y2 y3 fuel => by
        show m_Model_sons_B26 _ _ _ _ _ _ _ = _
        unfold m_Model_sons_B26
        rw [if_neg hne, if_neg hqj2, zq_fatherOf hm hw hq]
        rfl
      rcases (hw.2.2.2 q hq).2.1 with h | ⟨f, hf, h⟩
      · refine ⟨0, Or.inl rfl, fun n fuel hn hf => ?_, -1, fun z => absurd z (by decide), fun _ => rfl, fun kk Q y2 y3 fuel hf z => ?_⟩
        · obtain ⟨f, rfl⟩ : ∃ f, fuel = f + 2 := ⟨fuel - 2, by omega⟩
          rw [hstep n (f + 1) hn, h]
          show m_Debts_isOfLine_B5 _ _ _ _ _ = _
          unfold m_Debts_isOfLine_B5
          rw [show (6 : Int32) = nI 6 from rfl]
          by_cases q6 : nI 6 ≤ nI (n + 1)
          · rw [if_pos q6]
          · rw [if_neg q6, zp_isPerson_no]; rfl
        · obtain ⟨f, rfl⟩ : ∃ f, fuel = f + 2 := ⟨fuel - 2, by omega⟩
          rw [hstep2, h]
          show zz_wp (m_Model_sons_B26 _ _ _ _ _ _ _) _
          unfold m_Model_sons_B26
          simp only [if_true]
          exact z
      · obtain ⟨b, hb, b1, y, c1, c2, c3⟩ := ih f hf (by omega)
        refine ⟨b, hb, fun n fuel hn hf2 => ?_, y, c1, c2, fun kk Q y2 y3 fuel hf2 z => ?_⟩
        · obtain ⟨f2, rfl⟩ : ∃ f2, fuel = f2 + 1 := ⟨fuel - 1, by omega⟩
          rw [hstep n f2 hn, h]
          exact b1 (n + 1) f2 (by omega) (by omega)
        · obtain ⟨f2, rfl⟩ : ∃ f2, fuel = f2 + 1 := ⟨fuel - 1, by omega⟩
          rw [hstep2, h]
          exact c3 kk Q y2 y3 f2 (by omega) z
theorem zo_sons (p : Int32) : zo_ok (m_Top_sons p) (m_Model_sons p) := by
  intro S e wc M c hc g
  have gs := zo_same g
  obtain ⟨⟨hw, hm, hcl⟩, hnow, -⟩ := g
  rcases zo_person p hw.2.1 with ⟨j, hj, rfl⟩ | h
  · have hM := hw.2.1
    have key : ∀ q, q < M → ∃ b : Int32, (b = 0 ∨ b = 1) ∧ m_Debts_isOfLine (nI q) (nI j) S = some (b, S) ∧ ∀ (kk : zt_3) (Q : Int32 → sy_St → Prop) (y2 : Int32), (b = 1 → zz_wp (kk (nI j) (y2 + zs_owe (zv_M S 400 0) M q) (nI (q + 1)) S) Q) → (b = 0 → zz_wp (kk (nI j) y2 (nI (q + 1)) S) Q) → zz_wp (sy_fix (fun _ _ _ _ _ => none) (m_Model_sons_B26 kk) sy_F (nI j) y2 (nI q) (nI q) S) Q := fun q hq => by
      obtain ⟨b, hb, b1, y, c1, c2, c3⟩ := zs_line hcl hm hw hj q hq
      refine ⟨b, hb, b1 0 sy_F (by omega) (zz_F (by omega)), fun kk Q y2 z1 z0 => c3 kk Q y2 (nI q) sy_F (zz_F (by omega)) ?_⟩
      unfold m_Model_sons_J49
      rcases hb with rfl | rfl
      · rw [c2 rfl, if_neg (fun z => nI_ne1 (by omega) z.symm), zz_b, zz_b, nI_1, Int32.add_zero]
        exact z0 rfl
      · rw [c1 rfl, if_pos rfl, zq_owe hm.2.1 hM hq, zz_c, zz_some, zz_b, zz_b, nI_1]
        exact z1 rfl
    have low : ∃ T : Int32, m_Top_sons (nI j) S = some (T, S) ∧ m_Model_sons (nI j) S = some (T, S) := by
      let B : Nat → Int32 := fun q => if h : q < M then (key q h).choose else 0
      let sm : Nat → Int32 := fun n => n.rec (0 : Int32) (fun q s => if B q = 1 then s + zs_owe (zv_M S 400 0) M q else s)
      have hB : ∀ q (h : q < M), B q = (key q h).choose := fun q h => dif_pos h
      refine ⟨sm M, ?_, ?_⟩
      · unfold m_Top_sons
        simp only [sy_c, zp_isPerson hcl.2.1 hM hj]
        have : m_Debts_ofLine 45 (nI j) S = some (sm M, S) := by
          refine zz_det ?_
          unfold m_Debts_ofLine
          refine zz_loopX (ap := fun (k : zt_3) (t : Nat × Int32) => k (nI j) t.2 (nI t.1) S) (fun t => M - t.1) (fun t => t.1 ≤ M ∧ t.2 = sm t.1) ?_ sy_F (0, 0) (zz_F (by simp only; omega)) ⟨by simp only; omega, rfl⟩
          rintro kk ⟨i, s⟩ ⟨hi, hs⟩ hk
          simp only at hi hs hk ⊢
          subst hs
          unfold m_Debts_ofLine_B5
          rw [zz_i, hcl.2.1]
          refine ⟨fun hle => ?_, fun hn => ?_⟩
          · have := nI_eq_of hle hi (by omega)
            subst this
            rw [zz_some]
            exact ⟨rfl, rfl⟩
          · have hi2 := nI_lt_of hn (by omega) (by omega)
            obtain ⟨hb, b1, -⟩ := (key i hi2).choose_spec
            rw [← hB i hi2] at hb b1
            rw [zz_c, b1, zz_some]
            have es : sm (i + 1) = if B i = 1 then sm i + zs_owe (zv_M S 400 0) M i else sm i := rfl
            rcases hb with h | h
            · rw [h, if_pos rfl, zz_b, nI_1]
              exact hk (i + 1, _) ⟨by simp only; omega, by simp only; rw [es, if_neg (by rw [h]; decide)]⟩ (by simp only; omega)
            · rw [h, if_neg (by decide), zz_c, zp_owe hcl.2.1 hM hi2, zz_some, zz_b, zz_b, nI_1, hnow.1]
              exact hk (i + 1, _) ⟨by simp only; omega, by simp only; rw [es, if_pos h]⟩ (by simp only; omega)
        rw [this]
        rfl
      · refine zz_det ?_
        unfold m_Model_sons
        rw [zz_c, zq_isOne_t hm.2.1 hM hj, zz_some, if_neg (by decide)]
        refine zz_loopX (ap := fun (k : zt_3) (t : Nat × Int32) => k (nI j) t.2 (nI t.1) S) (fun t => M - t.1) (fun t => t.1 ≤ M ∧ t.2 = sm t.1) ?_ sy_F (0, 0) (zz_F (by simp only; omega)) ⟨by simp only; omega, rfl⟩
        rintro kk ⟨i, s⟩ ⟨hi, hs⟩ hk
        simp only at hi hs hk ⊢
        subst hs
        unfold m_Model_sons_B15
        rw [zz_i, hm.2.1]
        refine ⟨fun hle => ?_, fun hn => ?_⟩
        · have := nI_eq_of hle hi (by omega)
          subst this
          rw [zz_some]
          exact ⟨rfl, rfl⟩
        · have hi2 := nI_lt_of hn (by omega) (by omega)
          obtain ⟨hb, -, b2⟩ := (key i hi2).choose_spec
          rw [← hB i hi2] at hb b2
          have es : sm (i + 1) = if B i = 1 then sm i + zs_owe (zv_M S 400 0) M i else sm i := rfl
          refine b2 _ _ _ (fun h => ?_) (fun h => ?_)
          · exact hk (i + 1, _) ⟨by simp only; omega, by simp only; rw [es, if_pos h]⟩ (by simp only; omega)
          · exact hk (i + 1, _) ⟨by simp only; omega, by simp only; rw [es, if_neg (by rw [h]; decide)]⟩ (by simp only; omega)
    obtain ⟨T, h1, h2⟩ := low
    exact zo_two h1 h2 gs
  · refine zo_two (r := -1000000001) (S1 := S) (S2 := S) ?_ ?_ gs
    · unfold m_Top_sons; rw [zp_isPerson_f hcl.2.1 h]; rfl
    · unfold m_Model_sons; rw [zq_isOne_f hm.2.1 hw.2.1 h]; rfl
