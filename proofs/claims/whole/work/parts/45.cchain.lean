/-! ===== the chain, class side ===== -/
theorem zp_isSome {S : sy_St} {e : Nat → Nat → Int32} {wc M k j : Nat} (he : ze_C S e wc M) (hw : ze_W e wc M) (hj : j < M) : (zs_tr e (zv_K S k) j → m_Sky_isTrickedBySome k (nI j) S = some (1, S)) ∧ (¬ zs_tr e (zv_K S k) j → m_Sky_isTrickedBySome k (nI j) S = some (0, S)) := by
  have key : ∀ b : Int32, ((zs_tr e (zv_K S k) j ∧ b = 1) ∨ (¬ zs_tr e (zv_K S k) j ∧ b = 0)) → m_Sky_isTrickedBySome k (nI j) S = some (b, S) := fun b hb => by
    refine zz_det ?_
    unfold m_Sky_isTrickedBySome
    refine zz_loopX (ap := fun (k : zt_2) (x : Nat) => k (nI j) (nI x) S) (fun x => 3 - x) (fun x => x ≤ 3 ∧ ∀ y, y < x → ¬ zs_falls e (zv_K S k) j y) ?_ sy_F 0 (zz_F (by omega)) ⟨by omega, fun y hy => by omega⟩
    rintro k2 x ⟨hx, hn⟩ hk
    unfold m_Sky_isTrickedBySome_B2
    rw [zz_i]
    refine ⟨fun hle => ?_, fun hnle => ?_⟩
    · have := nI_eq_of (n := 3) hle hx (by omega)
      subst this
      rw [zz_some]
      refine ⟨?_, rfl⟩
      rcases hb with ⟨⟨y, hy, z⟩, _⟩ | ⟨_, h⟩
      · exact absurd z (hn y hy)
      · exact h.symm
    · have hx2 := nI_lt_of (n := 3) hnle (by omega) (by omega)
      obtain ⟨a1, a0⟩ := zp_isTrickedBy (k := k) he hw hj hx2
      by_cases hf : zs_falls e (zv_K S k) j x
      · rw [a1 hf, zz_c, zz_some, if_neg (by decide), zz_some]
        rcases hb with ⟨_, h⟩ | ⟨h, _⟩
        · exact ⟨h.symm, rfl⟩
        · exact absurd ⟨x, hx2, hf⟩ h
      · rw [a0 hf, zz_c, zz_some, if_pos rfl, zz_b, nI_1]
        refine hk (x + 1) ⟨by omega, fun y hy => ?_⟩ (by omega)
        by_cases q : y = x
        · subst q; exact hf
        · exact hn y (by omega)
  exact ⟨fun h => key 1 (Or.inl ⟨h, rfl⟩), fun h => key 0 (Or.inr ⟨h, rfl⟩)⟩
def zs_mk (S : sy_St) (e : Nat → Nat → Int32) (v : Nat → Int32) (M : Nat) : Prop := ∀ j, j < M → ((zs_tr e v j ∧ S 380 j = 1) ∨ (¬ zs_tr e v j ∧ S 380 j = 0)) ∧ ((zs_Fi e v j ∧ S 381 j = 1) ∨ (¬ zs_Fi e v j ∧ S 381 j = 0))
theorem zp_isStep {S : sy_St} {e : Nat → Nat → Int32} {v : Nat → Int32} {wc M j : Nat} {x : Int32} (he : ze_C S e wc M) (hw : ze_W e wc M) (hk : zs_mk S e v M) (hj : j < M) (hx : x = -1 ∨ ∃ i, i < M ∧ x = nI i) : (zs_E e v x j → m_Chain_isStep x (nI j) S = some (1, S)) ∧ (¬ zs_E e v x j → m_Chain_isStep x (nI j) S = some (0, S)) := by
  have hM := hw.2.1
  obtain ⟨k1, k2⟩ := hk j hj
  have i6 : sy_in (nI j) 6 = True := eq_true (zz_in (by omega) (by omega))
  have c6 : (nI j).toNatClampNeg = j := zz_cl (by omega)
  unfold m_Chain_isStep
  rcases hx with rfl | ⟨i, hi, rfl⟩
  · rw [if_pos rfl, zs_E_F]
    rcases k2 with ⟨a, b⟩ | ⟨a, b⟩
    · refine ⟨fun _ => ?_, fun z => absurd a z⟩
      simp only [sy_g, i6, if_true, c6, b]
      rfl
    · refine ⟨fun z => absurd z a, fun _ => ?_⟩
      simp only [sy_g, i6, if_true, c6, b]
      rfl
  · rw [if_neg (nI_ne1 (by omega)), zs_E_N (by omega)]
    by_cases q : j = i
    · subst q
      rw [if_pos rfl]
      exact ⟨fun z => absurd rfl z.1, fun _ => rfl⟩
    · rw [if_neg (fun z => q ((nI_eq (by omega) (by omega)).mp z).symm)]
      simp only [sy_g, i6, if_true, c6]
      rcases k1 with ⟨a, b⟩ | ⟨a, b⟩
      · rw [b, if_neg (by decide)]
        exact ⟨fun _ => rfl, fun z => absurd ⟨q, Or.inl a⟩ z⟩
      · rw [b, if_pos rfl]
        obtain ⟨s1, s0⟩ := zp_isSon he hw hj (x := nI i) (Or.inr ⟨i, hi, rfl⟩)
        by_cases hfa : e 2 (5 * j + 4) = nI i
        · rw [s1 ⟨nI_ne1 (by omega), hfa⟩]
          exact ⟨fun _ => rfl, fun z => absurd ⟨q, Or.inr hfa⟩ z⟩
        · rw [s0 (fun z => hfa z.2)]
          exact ⟨fun z => absurd z.2 (fun y => y.elim a hfa), fun _ => rfl⟩
theorem zp_leadsOn {S : sy_St} {e : Nat → Nat → Int32} {v : Nat → Int32} {wc M i : Nat} {r : Int32} (he : ze_C S e wc M) (hw : ze_W e wc M) (hk : zs_mk S e v M) (hi : i < M) : ((∃ j, j < M ∧ S 382 j = r ∧ zs_N e v i j) → m_Chain_leadsOn (nI i) r S = some (1, S)) ∧ (¬ (∃ j, j < M ∧ S 382 j = r ∧ zs_N e v i j) → m_Chain_leadsOn (nI i) r S = some (0, S)) := by
  have hM := hw.2.1
  have key : ∀ b : Int32, (((∃ j, j < M ∧ S 382 j = r ∧ zs_N e v i j) ∧ b = 1) ∨ (¬ (∃ j, j < M ∧ S 382 j = r ∧ zs_N e v i j) ∧ b = 0)) → m_Chain_leadsOn (nI i) r S = some (b, S) := fun b hb => by
    refine zz_det ?_
    unfold m_Chain_leadsOn
    refine zz_loopX (ap := fun (k : zt_3) (x : Nat) => k (nI i) r (nI x) S) (fun x => M - x) (fun x => x ≤ M ∧ ∀ y, y < x → ¬ (S 382 y = r ∧ zs_N e v i y)) ?_ sy_F 0 (zz_F (by omega)) ⟨by omega, fun y hy => by omega⟩
    rintro k2 x ⟨hx, hn⟩ hk2
    unfold m_Chain_leadsOn_B2
    rw [zz_i, he.2.1]
    refine ⟨fun hle => ?_, fun hnle => ?_⟩
    · have := nI_eq_of hle hx (by omega)
      subst this
      rw [zz_some]
      refine ⟨?_, rfl⟩
      rcases hb with ⟨⟨y, hy, z⟩, _⟩ | ⟨_, h⟩
      · exact absurd z (hn y hy)
      · exact h.symm
    · have hx2 := nI_lt_of hnle (by omega) (by omega)
      have nxt : ¬ (S 382 x = r ∧ zs_N e v i x) → zz_wp (k2 (nI i) r (nI (x + 1)) S) (fun r1 S1 => r1 = b ∧ S1 = S) := fun z => hk2 (x + 1) ⟨by omega, fun y hy => by
        by_cases q : y = x
        · subst q; exact z
        · exact hn y (by omega)⟩ (by omega)
      rw [zz_g, zz_cl (by omega), zz_i]
      refine ⟨zz_in (by omega) (by omega), fun q => ?_, fun q => ?_⟩
      · obtain ⟨a1, a0⟩ := zp_isStep he hw hk hx2 (x := nI i) (Or.inr ⟨i, hi, rfl⟩)
        rw [zs_E_N (by omega)] at a1 a0
        by_cases hN : zs_N e v i x
        · rw [a1 hN, zz_c, zz_some, if_neg (by decide), zz_some]
          rcases hb with ⟨_, h⟩ | ⟨h, _⟩
          · exact ⟨h.symm, rfl⟩
          · exact absurd ⟨x, hx2, q, hN⟩ h
        · rw [a0 hN, zz_c, zz_some, if_pos rfl, zz_b, nI_1]
          exact nxt (fun z => hN z.2)
      · rw [zz_b, nI_1]
        exact nxt (fun z => q z.1)
  exact ⟨fun h => key 1 (Or.inl ⟨h, rfl⟩), fun h => key 0 (Or.inr ⟨h, rfl⟩)⟩
/-- the distances as the class keeps them -/
def zs_st (S : sy_St) (M : Nat) (f : Nat → Nat) : Prop := ∀ i, i < M → (f i ≤ 5 ∧ S 382 i = nI (f i)) ∨ (f i = 99 ∧ S 382 i = -1)
/-- the nearest of those that a step leads to -/
def zs_near (P : Nat → Prop) (f : Nat → Nat) (n : Nat) (r : Int32) : Prop := (r = -1 ∧ ∀ j, j < n → P j → f j = 99) ∨ ∃ j, j < n ∧ r = nI j ∧ P j ∧ f j ≤ 5 ∧ (∀ i, i < n → P i → f j ≤ f i) ∧ ∀ i, i < j → P i → f j < f i
theorem zp_nextOf {S : sy_St} {e : Nat → Nat → Int32} {v : Nat → Int32} {wc M : Nat} {f : Nat → Nat} {x : Int32} (he : ze_C S e wc M) (hw : ze_W e wc M) (hk : zs_mk S e v M) (hs : zs_st S M f) (hx : x = -1 ∨ ∃ i, i < M ∧ x = nI i) : zz_wp (m_Chain_nextOf x S) (fun r S1 => S1 = S ∧ zs_near (zs_E e v x) f M r) := by
  have hM := hw.2.1
  unfold m_Chain_nextOf
  refine zz_loopX (ap := fun (k : zt_3) (u : Nat × Int32) => k x u.2 (nI u.1) S) (fun u => M - u.1) (fun u => u.1 ≤ M ∧ zs_near (zs_E e v x) f u.1 u.2) ?_ sy_F (0, -1) (zz_F (by simp only; omega)) ⟨by simp only; omega, Or.inl ⟨rfl, fun j hj => by simp only at hj; omega⟩⟩
  rintro k ⟨n, b⟩ ⟨hn, hb⟩ hk2
  simp only at hn hb hk2 ⊢
  unfold m_Chain_nextOf_B4
  rw [zz_i, he.2.1]
  refine ⟨fun hle => ?_, fun hnle => ?_⟩
  · have := nI_eq_of hle hn (by omega)
    subst this
    rw [zz_some]
    exact ⟨rfl, hb⟩
  have hn2 := nI_lt_of hnle (by omega) (by omega)
  have c6 : ∀ j, j < 6 → (nI j).toNatClampNeg = j := fun j hj => zz_cl (by omega)
  have i6 : ∀ j, j < 6 → sy_in (nI j) 6 = True := fun j hj => eq_true (zz_in hj (by omega))
  -- passing over n
  have skip : (zs_E e v x n → f n = 99 ∨ ∃ j, j < n ∧ b = nI j ∧ f j ≤ f n) → zz_wp (k x b (nI (n + 1)) S) (fun r S1 => S1 = S ∧ zs_near (zs_E e v x) f M r) := fun h => by
    refine hk2 (n + 1, b) ⟨by simp only; omega, ?_⟩ (by simp only; omega)
    simp only
    rcases hb with ⟨h1, h2⟩ | ⟨j, g1, g2, g3, g4, g5, g6⟩
    · refine Or.inl ⟨h1, fun j hj hp => ?_⟩
      by_cases q : j = n
      · subst q
        rcases h hp with z | ⟨y, hy, z, _⟩
        · exact z
        · rw [h1] at z; exact absurd z.symm (nI_ne1 (by omega))
      · exact h2 j (by omega) hp
    · refine Or.inr ⟨j, by omega, g2, g3, g4, fun i hi hp => ?_, g6⟩
      by_cases q : i = n
      · subst q
        rcases h hp with z | ⟨y, hy, z, z2⟩
        · omega
        · have : j = y := (nI_eq (by omega) (by omega)).mp (g2.symm.trans z)
          rw [this]; exact z2
      · exact g5 i (by omega) hp
  have take : zs_E e v x n → f n ≤ 5 → (∀ i, i < n → zs_E e v x i → f n < f i) → zz_wp (k x (nI n) (nI (n + 1)) S) (fun r S1 => S1 = S ∧ zs_near (zs_E e v x) f M r) := fun h1 h2 h3 => by
    refine hk2 (n + 1, nI n) ⟨by simp only; omega, Or.inr ⟨n, by simp only; omega, rfl, h1, h2, fun i hi hp => ?_, h3⟩⟩ (by simp only; omega)
    simp only at hi
    by_cases q : i = n
    · subst q; omega
    · have := h3 i (by omega) hp; omega
  rw [zz_g, zz_i]
  simp only [c6 n (by omega)]
  refine ⟨zz_in (by omega) (by omega), fun q => ?_, fun q => ?_⟩
  · rw [zz_b, nI_1]
    refine skip (fun _ => Or.inl ?_)
    rcases hs n hn2 with ⟨a, z⟩ | ⟨a, _⟩
    · rw [z] at q; exact absurd q (nI_ne1 (by omega))
    · exact a
  · have hfn : f n ≤ 5 ∧ S 382 n = nI (f n) := by
      rcases hs n hn2 with z | ⟨_, z⟩
      · exact z
      · exact absurd z q
    obtain ⟨a1, a0⟩ := zp_isStep he hw hk hn2 hx
    by_cases hE : zs_E e v x n
    rotate_left
    · rw [a0 hE, zz_c, zz_some, if_pos rfl, zz_b, nI_1]
      exact skip (fun z => absurd z hE)
    rw [a1 hE, zz_c, zz_some, if_neg (by decide), zz_i]
    rcases hb with ⟨h1, h2⟩ | ⟨j, g1, g2, g3, g4, g5, g6⟩
    · refine ⟨fun _ => ?_, fun z => absurd h1 z⟩
      rw [zz_b, nI_1]
      exact take hE hfn.1 (fun i hi hp => by have := h2 i hi hp; omega)
    · subst g2
      refine ⟨fun z => absurd z (nI_ne1 (by omega)), fun _ => ?_⟩
      have hfj : S 382 j = nI (f j) := by
        rcases hs j (by omega) with z | z
        · exact z.2
        · omega
      simp only [zz_g, zz_i, zz_b, i6 n (by omega), i6 j (by omega), true_and, c6 n (by omega), c6 j (by omega), hfj, hfn.2, nI_1]
      refine ⟨fun z => ?_, fun z => ?_⟩
      · have := (nI_leI (by omega) (by omega)).mp z
        exact skip (fun _ => Or.inr ⟨j, g1, rfl, this⟩)
      · have : f n < f j := by
          rcases Nat.lt_or_ge (f n) (f j) with y | y
          · exact y
          · exact absurd (nI_le y (by omega)) z
        exact take hE hfn.1 (fun i hi hp => by have := g5 i hi hp; omega)
