def zs_rd (S : sy_St) (M t : Nat) (N : Nat → Nat → Prop) (r x : Nat) : Prop := (∃ s, s ≤ r ∧ zg_d M t N x s ∧ S 382 x = nI s) ∨ (¬ zg_R M t N r x ∧ S 382 x = -1)
theorem zs_mk_f {S S1 : sy_St} {e : Nat → Nat → Int32} {v : Nat → Int32} {M : Nat} (h : zf_o S S1 382 383) (g : zs_mk S e v M) : zs_mk S1 e v M := by
  intro j hj
  rw [h 380 (by omega), h 381 (by omega)]
  exact g j hj
theorem zp_countSteps {S : sy_St} {e : Nat → Nat → Int32} {v : Nat → Int32} {wc M t : Nat} (he : ze_C S e wc M) (hw : ze_W e wc M) (hk : zs_mk S e v M) (ht : t < M) : zz_wp (m_Chain_countSteps (nI t) S) (fun _ S1 => zf_o S S1 382 382 ∧ ∃ f, zg_f M t (zs_N e v) f ∧ zs_st S1 M f) := by
  have hM := hw.2.1
  have i6 : ∀ j, j < 6 → sy_in (nI j) 6 = True := fun j hj => eq_true (zz_in hj (by omega))
  have c6 : ∀ j, j < 6 → (nI j).toNatClampNeg = j := fun j hj => zz_cl (by omega)
  unfold m_Chain_countSteps
  refine zz_loopX (ap := fun (k : zt_2) (u : Nat × sy_St) => k (nI t) (nI u.1) u.2) (fun u => 6 - u.1) (fun u => u.1 ≤ 6 ∧ zf_o S u.2 382 382 ∧ ∀ i, i < u.1 → u.2 382 i = if i = t then 0 else -1) ?_ sy_F (0, S) (zz_F (by simp only; omega)) ⟨by simp only; omega, zf_refl, fun i hi => absurd hi (by simp only; omega)⟩
  rintro k ⟨n, S1⟩ ⟨hn, hf, hx⟩ hk1
  simp only at hn hf hx hk1 ⊢
  unfold m_Chain_countSteps_B2
  rw [zz_i]
  refine ⟨fun hle => ?_, fun hnle => ?_⟩
  rotate_left
  · have hn2 := nI_lt_of (n := 6) hnle (by omega) (by omega)
    simp only [i6 n hn2, zz_i, zz_g, zz_b, true_and, c6 n hn2, nI_1]
    refine ⟨fun q => ?_, fun q => ?_⟩
    · have : n = t := (nI_eq (by omega) (by omega)).mp q
      refine hk1 (n + 1, sy_up S1 382 n 0) ⟨by simp only; omega, fun i h => by simp only; rw [zz_up1 (by omega), hf i h], fun i hi => ?_⟩ (by simp only; omega)
      simp only at hi ⊢
      rw [zz_up, if_pos rfl]
      by_cases z : i = n
      · rw [if_pos z, if_pos (by omega)]
      · rw [if_neg z]; exact hx i (by omega)
    · have : ¬ n = t := fun z => q (by rw [z])
      refine hk1 (n + 1, sy_up S1 382 n (-1)) ⟨by simp only; omega, fun i h => by simp only; rw [zz_up1 (by omega), hf i h], fun i hi => ?_⟩ (by simp only; omega)
      simp only at hi ⊢
      rw [zz_up, if_pos rfl]
      by_cases z : i = n
      · rw [if_pos z, if_neg (by omega)]
      · rw [if_neg z]; exact hx i (by omega)
  have := nI_eq_of (n := 6) hle hn (by omega)
  subst this
  clear hk1 hle
  refine zz_loopX (ap := fun (k : zt_1) (u : Nat × sy_St) => k (nI (u.1 + 1)) u.2) (fun u => M - u.1) (fun u => u.1 + 1 ≤ M ∧ zf_o S u.2 382 382 ∧ ∀ x, x < M → zs_rd u.2 M t (zs_N e v) u.1 x) ?_ sy_F (0, S1) (zz_F (by simp only; omega)) ⟨by simp only; omega, hf, fun x hx2 => ?_⟩
  rotate_left
  · simp only
    have := hx x (by omega)
    by_cases q : x = t
    · rw [if_pos q] at this
      exact Or.inl ⟨0, by omega, ⟨q, fun u hu => by omega⟩, this⟩
    · rw [if_neg q] at this
      exact Or.inr ⟨q, this⟩
  rintro k ⟨r, S2⟩ ⟨hr, hf2, hx2⟩ hk1
  simp only at hr hf2 hx2 hk1 ⊢
  unfold m_Chain_countSteps_B32
  rw [zz_i, hf2 1 (by omega), he.2.1]
  refine ⟨fun hle => ?_, fun hnle => ?_⟩
  · have hrM : r + 1 = M := nI_eq_of hle hr (by omega)
    rw [zz_some]
    refine ⟨hf2, ?_⟩
    have ex : ∀ x, ∃ y : Nat, x < M → ((y ≤ 5 ∧ zg_d M t (zs_N e v) x y ∧ S2 382 x = nI y) ∨ (y = 99 ∧ S2 382 x = -1 ∧ ∀ r, ¬ zg_R M t (zs_N e v) r x)) := fun x => by
      by_cases q : x < M
      · rcases hx2 x q with ⟨s, h1, h2, h3⟩ | ⟨h1, h2⟩
        · exact ⟨s, fun _ => Or.inl ⟨by omega, h2, h3⟩⟩
        · refine ⟨99, fun _ => Or.inr ⟨rfl, h2, fun r2 hr2 => h1 ?_⟩⟩
          have := zg_max ht q hr2
          rwa [show M - 1 = r by omega] at this
      · exact ⟨0, fun z => absurd z q⟩
    refine ⟨fun x => (ex x).choose, fun x hx3 => ?_, fun x hx3 => ?_⟩
    · rcases (ex x).choose_spec hx3 with ⟨a, b, c⟩ | ⟨a, b, c⟩
      · exact Or.inl ⟨a, b⟩
      · exact Or.inr ⟨a, c⟩
    · rcases (ex x).choose_spec hx3 with ⟨a, b, c⟩ | ⟨a, b, c⟩
      · exact Or.inl ⟨a, c⟩
      · exact Or.inr ⟨a, b⟩
  have hr2 := nI_lt_of hnle (by omega) (by omega)
  refine zz_loopX (ap := fun (k : zt_2) (u : Nat × sy_St) => k (nI (r + 1)) (nI u.1) u.2) (fun u => M - u.1) (fun u => u.1 ≤ M ∧ zf_o S u.2 382 382 ∧ (∀ x, x < u.1 → zs_rd u.2 M t (zs_N e v) (r + 1) x) ∧ ∀ x, x < M → u.1 ≤ x → zs_rd u.2 M t (zs_N e v) r x) ?_ sy_F (0, S2) (zz_F (by simp only; omega)) ⟨by simp only; omega, hf2, fun x hx3 => absurd hx3 (by simp only; omega), fun x hx3 _ => hx2 x hx3⟩
  rintro k2 ⟨i, S3⟩ ⟨hi, hf3, hA, hB⟩ hk2
  simp only at hi hf3 hA hB hk2 ⊢
  unfold m_Chain_countSteps_B45
  rw [zz_i, hf3 1 (by omega), he.2.1]
  refine ⟨fun hle => ?_, fun hnle2 => ?_⟩
  · have := nI_eq_of hle hi (by omega)
    subst this
    rw [zz_b, nI_1]
    exact hk1 (r + 1, S3) ⟨by simp only; omega, hf3, fun x hx3 => hA x hx3⟩ (by simp only; omega)
  have hi2 := nI_lt_of hnle2 (by omega) (by omega)
  have he3 : ze_C S3 e wc M := zf_eC hf3 (by omega) he
  have hk3 : zs_mk S3 e v M := zs_mk_f (zf_mono hf3 (by omega) (by omega)) hk
  -- those one step short of this round
  have lev : ∀ j, j < M → (S3 382 j = nI r ↔ zg_d M t (zs_N e v) j r) := fun j hj => by
    have both : (∃ s, s ≤ r + 1 ∧ zg_d M t (zs_N e v) j s ∧ S3 382 j = nI s) ∨ (¬ zg_R M t (zs_N e v) r j ∧ S3 382 j = -1) := by
      rcases Nat.lt_or_ge j i with q | q
      · rcases hA j q with h | ⟨h1, h2⟩
        · exact Or.inl h
        · exact Or.inr ⟨fun z => h1 (Or.inl z), h2⟩
      · rcases hB j hj q with ⟨s, h1, h2⟩ | h
        · exact Or.inl ⟨s, by omega, h2⟩
        · exact Or.inr h
    rcases both with ⟨s, h1, h2, h3⟩ | ⟨h1, h2⟩
    · rw [h3]
      constructor
      · intro z
        have : s = r := (nI_eq (by omega) (by omega)).mp z
        rw [← this]; exact h2
      · intro z; rw [zg_d_u h2 z]
    · rw [h2]
      constructor
      · intro z; exact absurd z.symm (nI_ne1 (by omega))
      · intro z; exact absurd z.1 h1
  have keep : zs_rd S3 M t (zs_N e v) (r + 1) i → zz_wp (k2 (nI (r + 1)) (nI (i + 1)) S3) (fun _ S1 => zf_o S S1 382 382 ∧ ∃ f, zg_f M t (zs_N e v) f ∧ zs_st S1 M f) := fun h => by
    refine hk2 (i + 1, S3) ⟨by simp only; omega, hf3, fun x hx3 => ?_, fun x hx3 hx4 => ?_⟩ (by simp only; omega)
    · simp only at hx3
      by_cases q : x = i
      · subst q; exact h
      · exact hA x (by omega)
    · simp only at hx4
      exact hB x hx3 (by omega)
  rw [zz_g, zz_i]
  simp only [c6 i (by omega)]
  refine ⟨zz_in (by omega) (by omega), fun q => ?_, fun q => ?_⟩
  rotate_left
  · rw [zz_b, nI_1]
    rcases hB i hi2 (by omega) with ⟨s, h1, h2⟩ | ⟨h1, h2⟩
    · exact keep (Or.inl ⟨s, by omega, h2⟩)
    · exact absurd h2 q
  have hnR : ¬ zg_R M t (zs_N e v) r i := by
    rcases hB i hi2 (by omega) with ⟨s, h1, h2, h3⟩ | ⟨h1, h2⟩
    · rw [h3] at q; exact absurd q (nI_ne1 (by omega))
    · exact h1
  obtain ⟨l1, l0⟩ := zp_leadsOn (r := nI r) he3 hw hk3 hi2
  rw [nI_pred]
  by_cases hl : ∃ j, j < M ∧ S3 382 j = nI r ∧ zs_N e v i j
  · obtain ⟨j, hj, h1, h2⟩ := hl
    rw [l1 ⟨j, hj, h1, h2⟩, zz_c, zz_some, if_neg (by decide), zz_g, zz_b, zz_b, nI_1]
    refine ⟨zz_in (by omega) (by omega), hk2 (i + 1, sy_up S3 382 i (nI (r + 1))) ⟨by simp only; omega, fun x h => by simp only; rw [zz_up1 (by omega), hf3 x h], fun x hx3 => ?_, fun x hx3 hx4 => ?_⟩ (by simp only; omega)⟩
    · simp only at hx3 ⊢
      unfold zs_rd
      rw [zz_up, if_pos rfl]
      by_cases z : x = i
      · subst z
        rw [if_pos rfl]
        refine Or.inl ⟨r + 1, by omega, ⟨Or.inr ⟨j, hj, h2, ((lev j hj).mp h1).1⟩, fun u hu hR => hnR (zg_le (by omega) hR)⟩, rfl⟩
      · rw [if_neg z]; exact hA x (by omega)
    · simp only at hx4 ⊢
      unfold zs_rd
      rw [zz_up, if_pos rfl, if_neg (by omega)]
      exact hB x hx3 (by omega)
  · rw [l0 hl, zz_c, zz_some, if_pos rfl, zz_b, nI_1]
    refine keep (Or.inr ⟨fun hR => ?_, q⟩)
    rcases hR with a | ⟨j, hj, hN, hR⟩
    · exact hnR a
    · obtain ⟨s, hs, hd⟩ := zg_d_ex hR
      by_cases z : s = r
      · subst z; exact hl ⟨j, hj, (lev j hj).mpr hd, hN⟩
      · exact hnR (zg_le (show s + 1 ≤ r by omega) (Or.inr ⟨j, hj, hN, hd.1⟩))
