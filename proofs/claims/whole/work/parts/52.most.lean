/-! ===== who stands most often in a row ===== -/
def zs_cnt (dg : Nat → Nat) (p : Nat) : Nat → Nat
  | 0 => 0
  | n + 1 => zs_cnt dg p n + (if dg n = p then 1 else 0)
theorem zs_cnt_le {dg : Nat → Nat} {p : Nat} : ∀ n, zs_cnt dg p n ≤ n := by
  intro n
  induction n with
  | zero => exact Nat.le_refl 0
  | succ n ih => rw [zs_cnt]; split <;> omega
def zs_most (dg : Nat → Nat) (n : Nat) : Nat → Nat
  | 0 => 0
  | p + 1 => max (zs_most dg n p) (zs_cnt dg p n)
theorem zs_most_le {dg : Nat → Nat} {n : Nat} : ∀ p, zs_most dg n p ≤ n := by
  intro p
  induction p with
  | zero => exact Nat.zero_le n
  | succ p ih => have := zs_cnt_le (dg := dg) (p := p) n; rw [zs_most]; omega
theorem zq_mostOf {S : sy_St} {M n : Nat} {dg : Nat → Nat} (hM : S 392 19 = nI M) (h6 : M ≤ 6) (hn : n ≤ 5) (hd : ∀ i, i < n → dg i < M ∧ S 407 i = nI (dg i)) : m_Model_mostOf (nI n) S = some (nI (zs_most dg n M), S) := by
  refine zz_det ?_
  unfold m_Model_mostOf
  refine zz_loopX (ap := fun (k : zt_3) (p : Nat) => k (nI n) (nI (zs_most dg n p)) (nI p) S) (fun p => M - p) (fun p => p ≤ M) ?_ sy_F 0 (zz_F (by omega)) (by omega)
  intro k p hp hk
  unfold m_Model_mostOf_B4
  rw [zz_i, hM]
  refine ⟨fun hle => ?_, fun hnle => ?_⟩
  · have := nI_eq_of hle hp (by omega)
    subst this
    rw [zz_some]
    exact ⟨rfl, rfl⟩
  have hp2 := nI_lt_of hnle (by omega) (by omega)
  have hk := hk (p + 1) (by omega) (by omega)
  rw [zs_most] at hk
  have hm1 := zs_most_le (dg := dg) (n := n) p
  have hc1 := zs_cnt_le (dg := dg) (p := p) n
  refine zz_loopX (ap := fun (k : zt_5) (i : Nat) => k (nI n) (nI (zs_most dg n p)) (nI p) (nI (zs_cnt dg p i)) (nI i) S) (fun i => n - i) (fun i => i ≤ n) ?_ sy_F 0 (zz_F (by omega)) (by omega)
  intro k2 i hi hk2
  unfold m_Model_mostOf_B18
  rw [zz_i]
  refine ⟨fun hle => ?_, fun hnle2 => ?_⟩
  · have := nI_eq_of hle hi (by omega)
    subst this
    simp only [zz_i, zz_b, nI_1]
    refine ⟨fun h => ?_, fun h => ?_⟩
    · have := (nI_leI (by omega) (by omega)).mp h
      rw [Nat.max_eq_left this] at hk
      exact hk
    · have : zs_most dg i p ≤ zs_cnt dg p i := by
        rcases Nat.lt_or_ge (zs_cnt dg p i) (zs_most dg i p) with q | q
        · exact absurd (nI_le (Nat.le_of_lt q) (by omega)) h
        · exact q
      rw [Nat.max_eq_right this] at hk
      exact hk
  · have hi2 := nI_lt_of hnle2 (by omega) (by omega)
    obtain ⟨d1, d2⟩ := hd i hi2
    have hk2 := hk2 (i + 1) (by omega) (by omega)
    rw [zs_cnt] at hk2
    rw [zz_g, zz_i]
    simp only [zz_cl (show i < 2147483648 by omega), d2, zz_b, nI_1, Int32.add_zero]
    refine ⟨zz_in (by omega) (by omega), fun h => ?_, fun h => ?_⟩
    · have := (nI_eq (by omega) (by omega)).mp h
      rw [if_pos this] at hk2
      exact hk2
    · rw [if_neg (fun z => h (by rw [z]))] at hk2
      exact hk2
