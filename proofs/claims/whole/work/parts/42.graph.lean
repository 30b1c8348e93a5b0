/-! ===== how many steps to one that is meant ===== -/
def zg_R (M t : Nat) (N : Nat → Nat → Prop) : Nat → Nat → Prop
  | 0 => fun i => i = t
  | r + 1 => fun i => zg_R M t N r i ∨ ∃ j, j < M ∧ N i j ∧ zg_R M t N r j
theorem zg_up {M t : Nat} {N : Nat → Nat → Prop} {r i : Nat} : ∀ u, zg_R M t N r i → zg_R M t N (r + u) i := by
  intro u
  induction u with
  | zero => exact id
  | succ u ih => intro h; exact Or.inl (ih h)
theorem zg_le {M t : Nat} {N : Nat → Nat → Prop} {r s i : Nat} (h : r ≤ s) (hr : zg_R M t N r i) : zg_R M t N s i := by
  have := zg_up (s - r) hr
  rwa [show r + (s - r) = s by omega] at this
def zg_cl (M t : Nat) (N : Nat → Nat → Prop) (r : Nat) : Prop := ∀ i, i < M → zg_R M t N (r + 1) i → zg_R M t N r i
theorem zg_cl_s {M t : Nat} {N : Nat → Nat → Prop} {r : Nat} (h : zg_cl M t N r) : zg_cl M t N (r + 1) := by
  intro i hi hr
  rcases hr with a | ⟨j, hj, hn, hr⟩
  · exact a
  · exact Or.inr ⟨j, hj, hn, h j hj hr⟩
theorem zg_cl_all {M t : Nat} {N : Nat → Nat → Prop} {r : Nat} (h : zg_cl M t N r) : ∀ u i, i < M → zg_R M t N (r + u) i → zg_R M t N r i := by
  intro u
  have hc : ∀ u, zg_cl M t N (r + u) := by
    intro u
    induction u with
    | zero => exact h
    | succ u ih => exact zg_cl_s ih
  induction u with
  | zero => intro i _ h; exact h
  | succ u ih => intro i hi hr; exact ih i hi (hc u i hi hr)
noncomputable def zg_cn (P : Nat → Prop) : Nat → Nat
  | 0 => 0
  | n + 1 => zg_cn P n + zs_if1 (P n)
theorem zg_cn_le (P : Nat → Prop) : ∀ n, zg_cn P n ≤ n := by
  intro n
  induction n with
  | zero => exact Nat.le_refl 0
  | succ n ih => have := zs_if1_le (p := P n); rw [zg_cn]; omega
theorem zs_if1_m {p q : Prop} (h : p → q) : zs_if1 p ≤ zs_if1 q := by
  by_cases hp : p
  · rw [zs_if1_t hp, zs_if1_t (h hp)]; omega
  · rw [zs_if1_f hp]; omega
theorem zg_cn_m {P Q : Nat → Prop} : ∀ n, (∀ i, i < n → P i → Q i) → zg_cn P n ≤ zg_cn Q n := by
  intro n
  induction n with
  | zero => intro _; exact Nat.le_refl 0
  | succ n ih =>
    intro h
    have := ih (fun i hi => h i (by omega))
    have := zs_if1_m (h n (by omega))
    rw [zg_cn, zg_cn]; omega
theorem zg_cn_s {P Q : Nat → Prop} : ∀ n, (∀ i, i < n → P i → Q i) → (∃ i, i < n ∧ Q i ∧ ¬ P i) → zg_cn P n + 1 ≤ zg_cn Q n := by
  intro n
  induction n with
  | zero => intro _ ⟨i, hi, _⟩; omega
  | succ n ih =>
    intro h ⟨i, hi, hq, hp⟩
    rw [zg_cn, zg_cn]
    by_cases e : i = n
    · subst e
      have := zg_cn_m i (fun x hx => h x (by omega))
      rw [zs_if1_t hq, zs_if1_f hp]; omega
    · have := ih (fun x hx => h x (by omega)) ⟨i, by omega, hq, hp⟩
      have := zs_if1_m (h n (by omega))
      omega
theorem zg_cn_1 {P : Nat → Prop} {t : Nat} : ∀ n, t < n → P t → 1 ≤ zg_cn P n := by
  intro n
  induction n with
  | zero => intro h; omega
  | succ n ih =>
    intro h hp
    rw [zg_cn]
    by_cases e : t = n
    · subst e; rw [zs_if1_t hp]; omega
    · have := ih (by omega) hp; omega
theorem zg_grow {M t : Nat} {N : Nat → Nat → Prop} (ht : t < M) : ∀ r, zg_cl M t N r ∨ r + 2 ≤ zg_cn (zg_R M t N (r + 1)) M := by
  have step : ∀ r, ¬ zg_cl M t N r → zg_cn (zg_R M t N r) M + 1 ≤ zg_cn (zg_R M t N (r + 1)) M := by
    intro r h
    refine zg_cn_s M (fun i _ hr => Or.inl hr) ?_
    refine Classical.byContradiction fun z => h (fun i hi hr => ?_)
    exact Classical.byContradiction fun y => z ⟨i, hi, hr, y⟩
  intro r
  induction r with
  | zero =>
    by_cases h : zg_cl M t N 0
    · exact Or.inl h
    · have := step 0 h
      have := zg_cn_1 (P := zg_R M t N 0) M ht rfl
      exact Or.inr (by omega)
  | succ r ih =>
    rcases ih with h | h
    · exact Or.inl (zg_cl_s h)
    · by_cases h2 : zg_cl M t N (r + 1)
      · exact Or.inl h2
      · have := step (r + 1) h2
        exact Or.inr (by omega)
/-- who is reached at all is reached in fewer steps than there are people -/
theorem zg_max {M t : Nat} {N : Nat → Nat → Prop} (ht : t < M) {r i : Nat} (hi : i < M) (h : zg_R M t N r i) : zg_R M t N (M - 1) i := by
  rcases zg_grow (N := N) ht (M - 1) with hc | hc
  · by_cases q : r ≤ M - 1
    · exact zg_le q h
    · have := zg_cl_all hc (r - (M - 1)) i hi
      rw [show M - 1 + (r - (M - 1)) = r by omega] at this
      exact this h
  · have := zg_cn_le (zg_R M t N (M - 1 + 1)) M
    omega
/-- s is the least number of steps -/
def zg_d (M t : Nat) (N : Nat → Nat → Prop) (i s : Nat) : Prop := zg_R M t N s i ∧ ∀ u, u < s → ¬ zg_R M t N u i
theorem zg_d_ex {M t : Nat} {N : Nat → Nat → Prop} {r i : Nat} (h : zg_R M t N r i) : ∃ s, s ≤ r ∧ zg_d M t N i s := by
  obtain ⟨k, h1, h2⟩ := pk_least (fun s => zg_R M t N s i) ⟨r, h⟩
  refine ⟨k, ?_, h1, h2⟩
  rcases Nat.lt_or_ge r k with q | q
  · exact absurd h (h2 r q)
  · exact q
theorem zg_d_u {M t : Nat} {N : Nat → Nat → Prop} {i s u : Nat} (h : zg_d M t N i s) (h2 : zg_d M t N i u) : s = u := by
  rcases Nat.lt_trichotomy s u with q | q | q
  · exact absurd h.1 (h2.2 s q)
  · exact q
  · exact absurd h2.1 (h.2 u q)
/-- a step nearer -/
theorem zg_d_s {M t : Nat} {N : Nat → Nat → Prop} {i s : Nat} (h : zg_d M t N i (s + 1)) : ∃ j, j < M ∧ N i j ∧ zg_d M t N j s := by
  rcases h.1 with a | ⟨j, hj, hn, hr⟩
  · exact absurd a (h.2 s (by omega))
  · refine ⟨j, hj, hn, hr, fun u hu hr2 => ?_⟩
    exact h.2 (u + 1) (by omega) (Or.inr ⟨j, hj, hn, hr2⟩)
theorem zg_d_ge {M t : Nat} {N : Nat → Nat → Prop} {i j s u : Nat} (h : zg_d M t N i s) (hj : j < M) (hn : N i j) (h2 : zg_d M t N j u) : s ≤ u + 1 := by
  rcases Nat.lt_or_ge (u + 1) s with q | q
  · exact absurd (Or.inr ⟨j, hj, hn, h2.1⟩) (h.2 (u + 1) q)
  · exact q
/-- how far, 99 for those that no steps reach -/
def zg_f (M t : Nat) (N : Nat → Nat → Prop) (f : Nat → Nat) : Prop := ∀ i, i < M → (f i ≤ 5 ∧ zg_d M t N i (f i)) ∨ (f i = 99 ∧ ∀ r, ¬ zg_R M t N r i)
theorem zg_f_u {M t : Nat} {N : Nat → Nat → Prop} {f f2 : Nat → Nat} (h : zg_f M t N f) (h2 : zg_f M t N f2) {i : Nat} (hi : i < M) : f i = f2 i := by
  rcases h i hi with ⟨a, b⟩ | ⟨a, b⟩ <;> rcases h2 i hi with ⟨c, d⟩ | ⟨c, d⟩
  · exact zg_d_u b d
  · exact absurd b.1 (d _)
  · exact absurd d.1 (b _)
  · omega
theorem zg_f_of {M t : Nat} {N : Nat → Nat → Prop} {f : Nat → Nat} (h6 : M ≤ 6) (ht : t < M) (h1 : ∀ i, i < M → f i < 99 → zg_R M t N (f i) i) (h2 : ∀ i, i < M → ∀ s, s ≤ M → zg_R M t N s i → f i ≤ s) (h3 : ∀ i, i < M → f i ≤ 99) : zg_f M t N f := by
  intro i hi
  by_cases h : ∃ r, zg_R M t N r i
  · obtain ⟨r, h⟩ := h
    have := zg_max ht hi h
    obtain ⟨s, hs, hd⟩ := zg_d_ex this
    have hle := h2 i hi s (by omega) hd.1
    have hr := h1 i hi (by omega)
    have : f i = s := by
      rcases Nat.lt_or_ge (f i) s with q | q
      · exact absurd hr (hd.2 _ q)
      · omega
    exact Or.inl ⟨by omega, by rw [this]; exact hd⟩
  · have hn : ∀ r, ¬ zg_R M t N r i := fun r z => h ⟨r, z⟩
    refine Or.inr ⟨?_, hn⟩
    rcases Nat.lt_or_ge (f i) 99 with q | q
    · exact absurd (h1 i hi q) (hn _)
    · have := h3 i hi; omega
