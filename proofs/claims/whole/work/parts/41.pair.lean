/-! ===== the strongest pair ===== -/
abbrev zs_lvl (e : Nat → Nat → Int32) (i j : Nat) : Prop := -1 ≤ e 2 (5 * i + 2) - e 2 (5 * j + 2) ∧ e 2 (5 * i + 2) - e 2 (5 * j + 2) ≤ 1
def zs_pin (e : Nat → Nat → Int32) (v : Nat → Int32) (p : Nat) : Nat → Nat → Int32 × Int32 × Int32 → Int32 × Int32 × Int32
  | 0, _, t => t
  | n + 1, q, t => zs_pin e v p n (q + 1) (if zs_lvl e p q then (if t.2.2 < zs_force e v p + zs_force e v q then (nI p, nI q, zs_force e v p + zs_force e v q) else t) else t)
def zs_pout (e : Nat → Nat → Int32) (v : Nat → Int32) (M : Nat) : Nat → Nat → Int32 × Int32 × Int32 → Int32 × Int32 × Int32
  | 0, _, t => t
  | n + 1, p, t => zs_pout e v M n (p + 1) (zs_pin e v p (M - (p + 1)) (p + 1) t)
def zs_pk3 (w : Int32) (t : Int32 × Int32 × Int32) : Int32 := if w = 0 then t.1 else if w = 1 then t.2.1 else t.2.2
theorem zo_pair (w : Int32) : zo_ok (m_Top_pair w) (m_Model_pair w) := by
  intro S e wc M c hc g
  have gs := zo_same g
  obtain ⟨⟨hw, hm, hcl⟩, hnow, -⟩ := g
  have hM := hw.2.1
  by_cases hi : 0 ≤ w ∧ w ≤ 2
  rotate_left
  · refine zo_two (r := -1000000002) (S1 := S) (S2 := S) ?_ ?_ gs
    · unfold m_Top_pair
      by_cases q : w < 0
      · rw [if_pos q]
      · rw [if_neg q, if_neg (fun z => hi ⟨by grind, z⟩)]
    · unfold m_Model_pair; rw [zq_in_f hi]; rfl
  generalize hv : zv_M S 400 0 = v at hnow
  have fC : ∀ j, j < M → m_Sky_forceOf 45 (nI j) S = some (zs_force e v j, S) := fun j hj => by rw [zp_forceOf hcl hw hj, hnow.1, hv]
  have fM : ∀ j, j < M → m_Model_forceOf 400 31 (nI j) S = some (zs_force e v j, S) := fun j hj => by rw [zq_forceOf hm hw hj, hv]
  have lC : ∀ i j, i < M → j < M → m_Edge_areLevel 1 (nI i) (nI j) S = some (if zs_lvl e i j then 1 else 0, S) := fun i j h1 h2 => zp_areLevel hcl hw h1 h2
  have lM : ∀ i j, i < M → j < M → m_Model_areLevel (nI i) (nI j) S = some (if zs_lvl e i j then 1 else 0, S) := fun i j h1 h2 => zq_areLevel hm hw h1 h2
  generalize hT : zs_pout e v M M 0 (-1, -1, -1) = T
  refine zo_two (r := zs_pk3 w T) (S1 := S) (S2 := S) ?_ ?_ gs
  · refine zz_det ?_
    unfold m_Top_pair
    rw [if_neg (fun z => by have := hi.1; grind), if_pos hi.2]
    refine zz_loopX (ap := fun (k : zt_5) (u : Nat × (Int32 × Int32 × Int32)) => k w u.2.1 u.2.2.1 u.2.2.2 (nI u.1) S) (fun u => M - u.1) (fun u => u.1 ≤ M ∧ zs_pout e v M (M - u.1) u.1 u.2 = T) ?_ sy_F (0, -1, -1, -1) (zz_F (by simp only; omega)) ⟨by simp only; omega, hT⟩
    rintro k ⟨p, t1, t2, t3⟩ ⟨hp, ht⟩ hk
    simp only at hp ht hk ⊢
    unfold m_Top_pair_B22
    rw [zz_i, hcl.2.1]
    refine ⟨fun hle => ?_, fun hn => ?_⟩
    · have := nI_eq_of hle hp (by omega)
      subst this
      rw [Nat.sub_self] at ht
      rw [← ht, zs_pout, zs_pk3]
      by_cases q0 : w = 0
      · rw [if_pos q0, if_pos q0, zz_some]; exact ⟨rfl, rfl⟩
      · by_cases q1 : w = 1
        · rw [if_neg q0, if_neg q0, if_pos q1, if_pos q1, zz_some]; exact ⟨rfl, rfl⟩
        · rw [if_neg q0, if_neg q0, if_neg q1, if_neg q1, zz_some]; exact ⟨rfl, rfl⟩
    · have hp2 := nI_lt_of hn (by omega) (by omega)
      rw [show M - p = (M - (p + 1)) + 1 by omega, zs_pout] at ht
      rw [zz_b, nI_1]
      refine zz_loopX (ap := fun (k : zt_6) (u : Nat × (Int32 × Int32 × Int32)) => k w u.2.1 u.2.2.1 u.2.2.2 (nI p) (nI u.1) S) (fun u => M - u.1) (fun u => u.1 ≤ M ∧ zs_pout e v M (M - (p + 1)) (p + 1) (zs_pin e v p (M - u.1) u.1 u.2) = T) ?_ sy_F (p + 1, t1, t2, t3) (zz_F (by simp only; omega)) ⟨by simp only; omega, ht⟩
      rintro k2 ⟨q, s1, s2, s3⟩ ⟨hq, hs⟩ hk2
      simp only at hq hs hk2 ⊢
      unfold m_Top_pair_B40
      rw [zz_i, hcl.2.1]
      refine ⟨fun hle => ?_, fun hn2 => ?_⟩
      · have := nI_eq_of hle hq (by omega)
        subst this
        rw [Nat.sub_self, zs_pin] at hs
        rw [zz_b, nI_1]
        exact hk (p + 1, s1, s2, s3) ⟨by simp only; omega, hs⟩ (by simp only; omega)
      · have hq2 := nI_lt_of hn2 (by omega) (by omega)
        rw [show M - q = (M - (q + 1)) + 1 by omega, zs_pin] at hs
        simp only [zz_c, zz_b, zz_some, fC p hp2, fC q hq2, lC p q hp2 hq2, nI_1]
        by_cases hl : zs_lvl e p q
        · rw [if_pos hl] at hs
          have hl2 : (if zs_lvl e p q then (1 : Int32) else 0) = 1 := if_pos hl
          simp only [hl2]
          rw [if_neg (by decide)]
          by_cases hf : s3 < zs_force e v p + zs_force e v q
          · rw [if_pos hf] at hs
            rw [if_pos hf]
            exact hk2 (q + 1, _, _, _) ⟨by simp only; omega, hs⟩ (by simp only; omega)
          · rw [if_neg hf] at hs
            rw [if_neg hf]
            exact hk2 (q + 1, s1, s2, s3) ⟨by simp only; omega, hs⟩ (by simp only; omega)
        · rw [if_neg hl] at hs
          have hl2 : (if zs_lvl e p q then (1 : Int32) else 0) = 0 := if_neg hl
          simp only [hl2, if_true]
          exact hk2 (q + 1, s1, s2, s3) ⟨by simp only; omega, hs⟩ (by simp only; omega)
  · refine zz_det ?_
    unfold m_Model_pair
    rw [zq_in_t hi.1 hi.2, zz_c, zz_some, if_neg (by decide)]
    refine zz_loopX (ap := fun (k : zt_5) (u : Nat × (Int32 × Int32 × Int32)) => k w u.2.1 u.2.2.1 u.2.2.2 (nI u.1) S) (fun u => M - u.1) (fun u => u.1 ≤ M ∧ zs_pout e v M (M - u.1) u.1 u.2 = T) ?_ sy_F (0, -1, -1, -1) (zz_F (by simp only; omega)) ⟨by simp only; omega, hT⟩
    rintro k ⟨p, t1, t2, t3⟩ ⟨hp, ht⟩ hk
    simp only at hp ht hk ⊢
    unfold m_Model_pair_B22
    rw [zz_i, hm.2.1]
    refine ⟨fun hle => ?_, fun hn => ?_⟩
    · have := nI_eq_of hle hp (by omega)
      subst this
      rw [Nat.sub_self] at ht
      rw [← ht, zs_pout, zs_pk3]
      by_cases q0 : w = 0
      · rw [if_pos q0, if_pos q0, zz_some]; exact ⟨rfl, rfl⟩
      · by_cases q1 : w = 1
        · rw [if_neg q0, if_neg q0, if_pos q1, if_pos q1, zz_some]; exact ⟨rfl, rfl⟩
        · rw [if_neg q0, if_neg q0, if_neg q1, if_neg q1, zz_some]; exact ⟨rfl, rfl⟩
    · have hp2 := nI_lt_of hn (by omega) (by omega)
      rw [show M - p = (M - (p + 1)) + 1 by omega, zs_pout] at ht
      rw [zz_b, nI_1]
      refine zz_loopX (ap := fun (k : zt_6) (u : Nat × (Int32 × Int32 × Int32)) => k w u.2.1 u.2.2.1 u.2.2.2 (nI p) (nI u.1) S) (fun u => M - u.1) (fun u => u.1 ≤ M ∧ zs_pout e v M (M - (p + 1)) (p + 1) (zs_pin e v p (M - u.1) u.1 u.2) = T) ?_ sy_F (p + 1, t1, t2, t3) (zz_F (by simp only; omega)) ⟨by simp only; omega, ht⟩
      rintro k2 ⟨q, s1, s2, s3⟩ ⟨hq, hs⟩ hk2
      simp only at hq hs hk2 ⊢
      unfold m_Model_pair_B37
      rw [zz_i, hm.2.1]
      refine ⟨fun hle => ?_, fun hn2 => ?_⟩
      · have := nI_eq_of hle hq (by omega)
        subst this
        rw [Nat.sub_self, zs_pin] at hs
        rw [zz_b, nI_1]
        exact hk (p + 1, s1, s2, s3) ⟨by simp only; omega, hs⟩ (by simp only; omega)
      · have hq2 := nI_lt_of hn2 (by omega) (by omega)
        rw [show M - q = (M - (q + 1)) + 1 by omega, zs_pin] at hs
        simp only [zz_c, zz_b, zz_some, fM p hp2, fM q hq2, lM p q hp2 hq2, nI_1]
        by_cases hl : zs_lvl e p q
        · rw [if_pos hl] at hs
          have hl2 : (if zs_lvl e p q then (1 : Int32) else 0) = 1 := if_pos hl
          simp only [hl2]
          rw [if_neg (by decide)]
          by_cases hf : s3 < zs_force e v p + zs_force e v q
          · rw [if_pos hf] at hs
            rw [if_neg (fun z => by generalize zs_force e v p + zs_force e v q = y at *; grind)]
            exact hk2 (q + 1, _, _, _) ⟨by simp only; omega, hs⟩ (by simp only; omega)
          · rw [if_neg hf] at hs
            rw [if_pos (by generalize zs_force e v p + zs_force e v q = y at *; clear hs hk hk2; grind)]
            exact hk2 (q + 1, s1, s2, s3) ⟨by simp only; omega, hs⟩ (by simp only; omega)
        · rw [if_neg hl] at hs
          have hl2 : (if zs_lvl e p q then (1 : Int32) else 0) = 0 := if_neg hl
          simp only [hl2, if_true]
          exact hk2 (q + 1, s1, s2, s3) ⟨by simp only; omega, hs⟩ (by simp only; omega)
