/-! ===== rows of people as codes ===== -/
theorem zs_powM : ∀ m, m < 7 → ∀ n, n < 6 → m ^ n < 10000 := by decide +kernel
theorem zq_power {S : sy_St} {M n : Nat} (h6 : M ≤ 6) (hn : n ≤ 5) : m_Model_power (nI M) (nI n) S = some (nI (M ^ n), S) := by
  refine zz_det ?_
  unfold m_Model_power
  refine zz_loopX (ap := fun (k : zt_4) (i : Nat) => k (nI M) (nI n) (nI (M ^ i)) (nI i) S) (fun i => n - i) (fun i => i ≤ n) ?_ sy_F 0 (zz_F (by omega)) (by omega)
  intro k i hi hk
  unfold m_Model_power_B4
  rw [zz_i]
  refine ⟨fun hle => ?_, fun hnle => ?_⟩
  · have := nI_eq_of hle hi (by omega)
    subst this
    rw [zz_some]
    exact ⟨rfl, rfl⟩
  · have hi2 := nI_lt_of hnle (by omega) (by omega)
    rw [zz_b, zz_b, nI_1, pk_mul, ← Nat.pow_succ]
    exact hk (i + 1) (by omega) (by omega)
/-- the i-th of n in the row of code c -/
def zs_dig (M n c i : Nat) : Nat := c / M ^ (n - 1 - i) % M
theorem zq_lay {S : sy_St} {M n c : Nat} (hM : S 392 19 = nI M) (h6 : M ≤ 6) (h0 : 0 < M) (hn : n ≤ 5) (hc : c < 10000) : zz_wp (m_Model_lay (nI c) (nI n) S) (fun _ S1 => zf_o S S1 407 407 ∧ ∀ i, i < n → S1 407 i = nI (zs_dig M n c i)) := by
  have em : ∀ q : Int32, q + -1 = q - 1 := fun q => by grind
  unfold m_Model_lay
  rw [zz_b]
  refine zz_loopX (ap := fun (k : zt_2) (u : Nat × sy_St) => k (nI (c / M ^ (n - u.1))) (nI u.1 - 1) u.2) (fun u => u.1) (fun u => u.1 ≤ n ∧ zf_o S u.2 407 407 ∧ ∀ i, i < n → u.1 ≤ i → u.2 407 i = nI (zs_dig M n c i)) ?_ sy_F (n, S) (zz_F (by simp only; omega)) ⟨by simp only; omega, zf_refl, fun i hi h => absurd h (by simp only; omega)⟩ |> fun z => by simpa using z
  rintro k ⟨m, S1⟩ ⟨hm, hf, hx⟩ hk
  simp only at hm hf hx hk ⊢
  have hcl : c / M ^ (n - m) < 10000 := Nat.lt_of_le_of_lt (Nat.div_le_self _ _) hc
  unfold m_Model_lay_B7
  rw [zz_i]
  rcases Nat.eq_zero_or_pos m with q | q
  · subst q
    refine ⟨fun _ => ?_, fun z => absurd (show nI 0 - 1 < 0 by decide) z⟩
    rw [zz_some]
    exact ⟨hf, fun i hi => hx i hi (by omega)⟩
  · obtain ⟨m, rfl⟩ : ∃ x, m = x + 1 := ⟨m - 1, by omega⟩
    rw [nI_pred]
    refine ⟨fun z => absurd z (nI_pos (by omega)), fun _ => ?_⟩
    have r19 : S1 392 19 = nI M := by rw [hf 392 (by omega), hM]
    have r192 : ∀ j v, sy_up S1 407 j v 392 19 = nI M := fun j v => by rw [zz_up1 (by omega), r19]
    simp only [zz_b, zz_g, r19, r192, zz_cl (show m < 2147483648 by omega), em]
    refine ⟨nI_ne0 (by omega) (by omega), zz_in (by omega) (by omega), nI_ne0 (by omega) (by omega), ?_⟩
    rw [pk_rem (by omega) h0 (by omega), pk_div (by omega) h0 (by omega), Nat.div_div_eq_div_mul, ← Nat.pow_succ, show (n - (m + 1)).succ = n - m by omega]
    refine hk (m, sy_up S1 407 m (nI (c / M ^ (n - (m + 1)) % M))) ⟨by simp only; omega, fun i h => by simp only; rw [zz_up1 (by omega), hf i h], fun i hi h => ?_⟩ (by simp only; omega)
    simp only at h ⊢
    rw [zz_up, if_pos rfl]
    by_cases z : i = m
    · subst z
      rw [if_pos rfl, zs_dig, show n - 1 - i = n - (i + 1) by omega]
    · rw [if_neg z]; exact hx i hi (by omega)
