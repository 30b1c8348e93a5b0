/-! ===== the chain: who comes next, by the distances ===== -/
def zs_E (e : Nat → Nat → Int32) (v : Nat → Int32) (x : Int32) (j : Nat) : Prop := (x = -1 ∧ zs_Fi e v j) ∨ ∃ i, i < 6 ∧ x = nI i ∧ zs_N e v i j
theorem zs_E_F {e : Nat → Nat → Int32} {v : Nat → Int32} {j : Nat} : zs_E e v (-1) j ↔ zs_Fi e v j := by
  constructor
  · rintro (⟨_, h⟩ | ⟨i, h6, h, _⟩)
    · exact h
    · exact absurd h.symm (nI_ne1 (by omega))
  · exact fun h => Or.inl ⟨rfl, h⟩
theorem zs_E_N {e : Nat → Nat → Int32} {v : Nat → Int32} {i j : Nat} (hi : i < 6) : zs_E e v (nI i) j ↔ zs_N e v i j := by
  constructor
  · rintro (⟨h, _⟩ | ⟨i2, h6, h, k⟩)
    · exact absurd h (nI_ne1 (by omega))
    · have : i = i2 := (nI_eq (by omega) (by omega)).mp h
      rw [this]; exact k
  · exact fun h => Or.inr ⟨i, hi, rfl, h⟩
def zs_least (P : Nat → Prop) (M : Nat) (r : Int32) : Prop := (∃ j, j < M ∧ r = nI j ∧ P j ∧ ∀ i, i < j → ¬ P i) ∨ (r = -1 ∧ ∀ j, j < M → ¬ P j)
theorem zs_least_u {P : Nat → Prop} {M : Nat} {r r2 : Int32} (h : zs_least P M r) (h2 : zs_least P M r2) : r = r2 := by
  rcases h with ⟨j, a, b, c, d⟩ | ⟨a, b⟩ <;> rcases h2 with ⟨j2, a2, b2, c2, d2⟩ | ⟨a2, b2⟩
  · have : j = j2 := by
      rcases Nat.lt_trichotomy j j2 with q | q | q
      · exact absurd c (d2 j q)
      · exact q
      · exact absurd c2 (d j2 q)
    rw [b, b2, this]
  · exact absurd c (b2 j a)
  · exact absurd c2 (b j2 a2)
  · rw [a, a2]
theorem zs_least_ex (P : Nat → Prop) (M : Nat) : ∃ r, zs_least P M r := by
  by_cases h : ∃ j, j < M ∧ P j
  · obtain ⟨k, h1, h2⟩ := pk_least (fun j => j < M ∧ P j) h
    exact ⟨nI k, Or.inl ⟨k, h1.1, rfl, h1.2, fun i hi hp => h2 i hi ⟨by have := h1.1; omega, hp⟩⟩⟩
  · exact ⟨-1, Or.inr ⟨rfl, fun j hj hp => h ⟨j, hj, hp⟩⟩⟩
noncomputable def zs_lst (P : Nat → Prop) (M : Nat) : Int32 := (zs_least_ex P M).choose
theorem zs_lst_s (P : Nat → Prop) (M : Nat) : zs_least P M (zs_lst P M) := (zs_least_ex P M).choose_spec
noncomputable def zs_best (F : Nat → Prop) (f : Nat → Nat) : Nat → Nat
  | 0 => 99
  | n + 1 => @ite Nat (F n ∧ f n + 1 < zs_best F f n) (Classical.propDecidable _) (f n + 1) (zs_best F f n)
theorem zs_best_t {F : Nat → Prop} {f : Nat → Nat} {n : Nat} (h : F n ∧ f n + 1 < zs_best F f n) : zs_best F f (n + 1) = f n + 1 := by rw [zs_best, if_pos h]
theorem zs_best_f {F : Nat → Prop} {f : Nat → Nat} {n : Nat} (h : ¬ (F n ∧ f n + 1 < zs_best F f n)) : zs_best F f (n + 1) = zs_best F f n := by rw [zs_best, if_neg h]
theorem zs_best_p {F : Nat → Prop} {f : Nat → Nat} : ∀ n, zs_best F f n ≤ 99 ∧ (zs_best F f n < 99 → ∃ j, j < n ∧ F j ∧ f j + 1 = zs_best F f n) ∧ ∀ j, j < n → F j → zs_best F f n ≤ f j + 1 := by
  intro n
  induction n with
  | zero => exact ⟨Nat.le_refl _, fun h => absurd h (by rw [zs_best]; omega), fun j hj => by omega⟩
  | succ n ih =>
    obtain ⟨a, b, c⟩ := ih
    by_cases h : F n ∧ f n + 1 < zs_best F f n
    · rw [zs_best_t h]
      refine ⟨by omega, fun _ => ⟨n, by omega, h.1, rfl⟩, fun j hj hF => ?_⟩
      by_cases q : j = n
      · subst q; omega
      · have := c j (by omega) hF; omega
    · rw [zs_best_f h]
      refine ⟨a, fun z => ?_, fun j hj hF => ?_⟩
      · obtain ⟨j, h1, h2, h3⟩ := b z
        exact ⟨j, by omega, h2, h3⟩
      · by_cases q : j = n
        · subst q
          rcases Nat.lt_or_ge (f j + 1) (zs_best F f j) with y | y
          · exact absurd ⟨hF, y⟩ h
          · exact y
        · exact c j (by omega) hF
noncomputable def zs_pth (e : Nat → Nat → Int32) (v : Nat → Int32) (f : Nat → Nat) (M L : Nat) : Nat → Int32
  | 0 => -1
  | k + 1 => zs_lst (fun j => zs_E e v (zs_pth e v f M L k) j ∧ f j + 1 + k = L) M
/-- every step of the way exists -/
theorem zs_pth_p {e : Nat → Nat → Int32} {v : Nat → Int32} {f : Nat → Nat} {M t L : Nat} (h6 : M ≤ 6) (hf : zg_f M t (zs_N e v) f) (hL : L = zs_best (zs_Fi e v) f M) (h99 : L < 99) : ∀ k, k < L → ∃ j, j < M ∧ zs_pth e v f M L (k + 1) = nI j ∧ zs_E e v (zs_pth e v f M L k) j ∧ f j + 1 + k = L ∧ ∀ i, i < j → ¬ (zs_E e v (zs_pth e v f M L k) i ∧ f i + 1 + k = L) := by
  intro k
  have fin : ∀ k, (∃ j, j < M ∧ zs_E e v (zs_pth e v f M L k) j ∧ f j + 1 + k = L) → ∃ j, j < M ∧ zs_pth e v f M L (k + 1) = nI j ∧ zs_E e v (zs_pth e v f M L k) j ∧ f j + 1 + k = L ∧ ∀ i, i < j → ¬ (zs_E e v (zs_pth e v f M L k) i ∧ f i + 1 + k = L) := fun k ⟨j, h1, h2⟩ => by
    rcases zs_lst_s (fun j => zs_E e v (zs_pth e v f M L k) j ∧ f j + 1 + k = L) M with ⟨j2, a, b, c, d⟩ | ⟨a, b⟩
    · exact ⟨j2, a, b, c.1, c.2, d⟩
    · exact absurd h2 (b j h1)
  induction k with
  | zero =>
    intro _
    obtain ⟨j, h1, h2, h3⟩ := (zs_best_p (F := zs_Fi e v) (f := f) M).2.1 (by omega)
    exact fin 0 ⟨j, h1, zs_E_F.mpr h2, by omega⟩
  | succ k ih =>
    intro hk
    obtain ⟨i, h1, h2, h3, h4, -⟩ := ih (by omega)
    refine fin (k + 1) ?_
    rw [h2]
    rcases hf i h1 with ⟨_, hd⟩ | ⟨a, _⟩
    · rw [show f i = (f i - 1) + 1 by omega] at hd
      obtain ⟨j, g1, g2, g3⟩ := zg_d_s hd
      refine ⟨j, g1, (zs_E_N (by omega)).mpr g2, ?_⟩
      rcases hf j g1 with ⟨_, hd2⟩ | ⟨_, b⟩
      · have := zg_d_u hd2 g3; omega
      · exact absurd g3.1 (b _)
    · omega
noncomputable def zs_ans (e : Nat → Nat → Int32) (v : Nat → Int32) (f : Nat → Nat) (M : Nat) (p : Int32) : Int32 := if zs_best (zs_Fi e v) f M = 99 then -1 else if nI (zs_best (zs_Fi e v) f M) ≤ p then -1 else if -1 ≤ p then (if p = -1 then nI (zs_best (zs_Fi e v) f M) else zs_pth e v f M (zs_best (zs_Fi e v) f M) (p.toNatClampNeg + 1)) else -1
theorem zq_chain {S : sy_St} {e : Nat → Nat → Int32} {wc M t c : Nat} {p : Int32} (hm : ze_M S e wc M) (hw : ze_W e wc M) (ht : t < M) (hW : zv_W (zv_M S 400 0) M c) (hh : ¬ (nI t = S 400 4 ∨ nI t = S 400 5)) : zz_wp (m_Model_chain (nI t) p S) (fun r S1 => zf_o S S1 408 408 ∧ ∃ f, zg_f M t (zs_N e (zv_M S 400 0)) f ∧ r = zs_ans e (zv_M S 400 0) f M p) := by
  have hM := hw.2.1
  unfold m_Model_chain
  rw [zz_c, zq_isOne_t hm.2.1 hM ht, zz_some, if_neg (by decide), zz_c, zq_holds, if_neg hh, zz_some, if_pos rfl, zz_c]
  refine zz_mono (zq_layFar hm hw ht hW) (fun _ S1 ⟨hf, f, hfg, h8⟩ => ?_)
  generalize hv : zv_M S 400 0 = v at hW hfg
  have hm1 : ze_M S1 e wc M := zd_eM (fun x j d => by rw [hf x (by omega)]) hm
  have hv1 : zv_M S1 400 0 = v := by rw [zf_M hf (by omega), hv]
  have f99 : ∀ j, j < M → f j ≤ 99 := fun j hj => by
    rcases hfg j hj with a | a
    · omega
    · omega
  have i6 : ∀ j, j < 6 → sy_in (nI j) 6 = True := fun j hj => eq_true (zz_in hj (by omega))
  have c6 : ∀ j, j < 6 → (nI j).toNatClampNeg = j := fun j hj => zz_cl (by omega)
  have hb := fun n => (zs_best_p (F := zs_Fi e v) (f := f) n).1
  refine zz_loopX (ap := fun (k : zt_4) (n : Nat) => k p (-1) (nI (zs_best (zs_Fi e v) f n)) (nI n) S1) (fun n => M - n) (fun n => n ≤ M) ?_ sy_F 0 (zz_F (by omega)) (by omega)
  intro k n hn hk
  unfold m_Model_chain_B47
  rw [zz_i, hm1.2.1]
  refine ⟨fun hle => ?_, fun hnle => ?_⟩
  rotate_left
  · have hn2 := nI_lt_of hnle (by omega) (by omega)
    have hk := hk (n + 1) (by omega) (by omega)
    have nx := zq_isFirst hm1 hw hn2 (by rw [hv1]; exact hW.2.2.2.2.2 n hn2)
    rw [hv1] at nx
    by_cases hF : zs_Fi e v n
    · rw [nx.1 hF, zz_c, zz_some, if_neg (by decide)]
      simp only [i6 n (by omega), zz_g, zz_i, zz_b, true_and, c6 n (by omega), h8 n hn2, nI_1]
      have := hb n
      have := f99 n hn2
      refine ⟨fun hle => ?_, fun hgt => ?_⟩
      · have := (nI_leI (by omega) (by omega)).mp hle
        rw [zs_best_f (by omega)] at hk
        exact hk
      · have : f n + 1 < zs_best (zs_Fi e v) f n := by
          rcases Nat.lt_or_ge (f n + 1) (zs_best (zs_Fi e v) f n) with q | q
          · exact q
          · exact absurd (nI_le q (by omega)) hgt
        rw [zs_best_t ⟨hF, this⟩] at hk
        exact hk
    · rw [nx.2 hF, zz_c, zz_some, if_pos rfl, zz_b, nI_1]
      rw [zs_best_f (fun z => hF z.1)] at hk
      exact hk
  have := nI_eq_of hle hn (by omega)
  subst this
  clear hk hle
  have hb := hb n
  generalize hL : zs_best (zs_Fi e v) f n = L at hb
  have fin : ∀ r : Int32, r = zs_ans e v f n p → zz_wp (some (r, S1)) (fun r S1 => zf_o S S1 408 408 ∧ ∃ f, zg_f n t (zs_N e v) f ∧ r = zs_ans e v f n p) := fun r hr => by
    rw [zz_some]; exact ⟨hf, f, hfg, hr⟩
  have fin : ∀ r : Int32, r = (if L = 99 then -1 else if nI L ≤ p then -1 else if -1 ≤ p then (if p = -1 then nI L else zs_pth e v f n L (p.toNatClampNeg + 1)) else -1) → zz_wp (some (r, S1)) (fun r S1 => zf_o S S1 408 408 ∧ ∃ f, zg_f n t (zs_N e v) f ∧ r = zs_ans e v f n p) := fun r hr => fin r (by unfold zs_ans; rw [hL]; exact hr)
  by_cases h99 : L = 99
  · rw [if_pos (by rw [h99]; rfl)]
    exact fin _ (by rw [if_pos h99])
  rw [if_neg (show ¬ nI L = 99 from fun z => h99 ((nI_eq (b := 99) (by omega) (by omega)).mp z))]
  by_cases hle : nI L ≤ p
  · rw [if_pos hle]
    exact fin _ (by rw [if_neg h99, if_pos hle])
  rw [if_neg hle]
  by_cases hm1p : -1 ≤ p
  rotate_left
  · rw [if_neg hm1p]
    exact fin _ (by rw [if_neg h99, if_neg hle, if_neg hm1p])
  rw [if_pos hm1p]
  by_cases hp1 : p = -1
  · rw [if_pos hp1]
    exact fin _ (by rw [if_neg h99, if_neg hle, if_pos hm1p, if_pos hp1])
  rw [if_neg hp1]
  have fin := fun r hr => fin r (by rw [if_neg h99, if_neg hle, if_pos hm1p, if_neg hp1]; exact hr)
  obtain ⟨K, hK0, rfl⟩ := nI_of (x := p) (by grind)
  have hKL : K < L := by
    rcases Nat.lt_or_ge K L with q | q
    · exact q
    · exact absurd (nI_le q (by omega)) hle
  rw [c6 K (by
    obtain ⟨j, h1, h2, h3⟩ := (zs_best_p (F := zs_Fi e v) (f := f) n).2.1 (by omega)
    rcases hfg j h1 with a | a
    · omega
    · omega)] at fin
  have hpp := zs_pth_p hM hfg hL.symm (by omega)
  refine zz_loopX (ap := fun (k : zt_4) (i : Nat) => k (nI K) (zs_pth e v f n L i) (nI (L - i)) (nI i) S1) (fun i => K + 1 - i) (fun i => i ≤ K + 1) ?_ sy_F 0 (zz_F (by omega)) (by omega)
  intro k i hi hk
  try simp only at hk ⊢
  unfold m_Model_chain_B137
  rw [zz_i]
  refine ⟨fun hlt => ?_, fun hnlt => ?_⟩
  · have := (nI_ltI (by omega) (by omega)).mp hlt
    rw [show i = K + 1 by omega]
    exact fin _ rfl
  · have hiK : i ≤ K := by
      rcases Nat.lt_or_ge K i with q | q
      · exact absurd (nI_lt q (by omega)) hnlt
      · exact q
    have hk := hk (i + 1) (by omega) (by omega)
    obtain ⟨j0, g1, g2, g3, g4, g5⟩ := hpp i (by omega)
    have nx : ∀ j, j < n → (zs_E e v (zs_pth e v f n L i) j → m_Model_isNext (zs_pth e v f n L i) (nI j) S1 = some (1, S1)) ∧ (¬ zs_E e v (zs_pth e v f n L i) j → m_Model_isNext (zs_pth e v f n L i) (nI j) S1 = some (0, S1)) := fun j hj => by
      cases i with
      | zero =>
        have := zq_isFirst hm1 hw hj (by rw [hv1]; exact hW.2.2.2.2.2 j hj)
        rw [hv1] at this
        rw [show zs_pth e v f n L 0 = -1 from rfl, zs_E_F]
        exact this
      | succ i =>
        obtain ⟨x, x1, x2, -⟩ := hpp i (by omega)
        have := zq_isNext hm1 hw x1 hj (by rw [hv1]; exact hW.2.2.2.2.2 j hj)
        rw [hv1] at this
        rw [x2, zs_E_N (by omega)]
        exact this
    generalize zs_pth e v f n L i = X at nx g3 g5
    rw [zz_b, hm1.2.1]
    rw [g2] at hk
    have hb2 : L ≤ 6 := by
      obtain ⟨j, h1, h2, h3⟩ := (zs_best_p (F := zs_Fi e v) (f := f) n).2.1 (by omega)
      rcases hfg j h1 with a | a
      · omega
      · omega
    -- downwards: the least of those seen
    refine zz_loopX (ap := fun (k : zt_6) (u : Nat × Int32) => k (nI K) X (nI (L - i)) (nI i) u.2 (nI u.1 - 1) S1) (fun u => u.1) (fun u => u.1 ≤ n ∧ ((j0 < u.1) ∨ (u.1 ≤ j0 ∧ u.2 = nI j0))) ?_ sy_F (n, -1) (zz_F (by simp only; omega)) ⟨by simp only; omega, Or.inl g1⟩
    rintro k2 ⟨m, y⟩ ⟨hm2, hy⟩ hk2
    simp only at hm2 hy hk2 ⊢
    unfold m_Model_chain_B154
    rw [zz_i]
    rcases Nat.eq_zero_or_pos m with h0 | h0
    · subst h0
      refine ⟨fun _ => ?_, fun z => absurd (show nI 0 - 1 < 0 by decide) z⟩
      rcases hy with hy | ⟨_, hy⟩
      · omega
      · rw [zz_b, zz_b, nI_1, hy, show L - i = (L - (i + 1)) + 1 by omega, pk_m1]
        exact hk
    · obtain ⟨m, rfl⟩ : ∃ q, m = q + 1 := ⟨m - 1, by omega⟩
      have em : ∀ q : Int32, q + -1 = q - 1 := fun q => by grind
      rw [nI_pred]
      refine ⟨fun z => absurd z (nI_pos (by omega)), fun _ => ?_⟩
      obtain ⟨n1, n0⟩ := nx m (by omega)
      by_cases hE : zs_E e v X m
      · rw [n1 hE, zz_c, zz_some, if_neg (by decide)]
        simp only [i6 m (by omega), zz_g, zz_i, zz_b, true_and, c6 m (by omega), h8 m (by omega), nI_1, em]
        have hfm := f99 m (by omega)
        refine ⟨fun q => ?_, fun q => ?_⟩
        · have := (nI_eq (by omega) (by omega)).mp q
          refine hk2 (m, nI m) ⟨by simp only; omega, ?_⟩ (by simp only; omega)
          simp only
          rcases Nat.lt_trichotomy m j0 with z | z | z
          · exact absurd ⟨hE, by omega⟩ (g5 m z)
          · exact Or.inr ⟨by omega, by rw [z]⟩
          · exact Or.inl z
        · have : ¬ f m + 1 = L - i := fun z => q (by rw [z])
          refine hk2 (m, y) ⟨by simp only; omega, ?_⟩ (by simp only; omega)
          simp only
          rcases Nat.lt_trichotomy m j0 with z | z | z
          · rcases hy with hy | hy
            · omega
            · exact Or.inr ⟨by omega, hy.2⟩
          · subst z; omega
          · exact Or.inl z
      · rw [n0 hE, zz_c, zz_some, if_pos rfl, zz_b, em]
        refine hk2 (m, y) ⟨by simp only; omega, ?_⟩ (by simp only; omega)
        simp only
        rcases Nat.lt_trichotomy m j0 with z | z | z
        · rcases hy with hy | hy
          · omega
          · exact Or.inr ⟨by omega, hy.2⟩
        · subst z; exact absurd g3 hE
        · exact Or.inl z
