/-! ===== the fewest payments ===== -/
def zs_wo (g p : Nat) : Nat := g &&& (63 ^^^ 2 ^ p)
theorem zs_wo_I : ∀ g, g < 64 → ∀ p, p < 6 → nI g &&& (((1 : Int32) <<< (nI p &&& 31)) ^^^ (-1)) = nI (zs_wo g p) := by decide +kernel
theorem zs_wo_lt : ∀ g, g < 64 → ∀ p, p < 6 → g.testBit p = true → zs_wo g p < g := by decide +kernel
theorem zs_wo_no : ∀ g, g < 64 → ∀ p, p < 6 → g.testBit p = false → zs_wo g p = g := by decide +kernel
theorem zs_wo_b : ∀ g, g < 64 → ∀ p, p < 6 → ∀ q, q < 6 → (zs_wo g p).testBit q = (g.testBit q && !(decide (q = p))) := by decide +kernel
theorem zs_has_I : ∀ g, g < 64 → ∀ p, p < 6 → (((nI g) >>> (nI p &&& 31)) &&& 1 = 1 ↔ g.testBit p = true) := by decide +kernel
theorem zs_pow_I : ∀ m, m < 7 → ((1 : Int32) <<< (nI m &&& 31)) = nI (2 ^ m) := by decide +kernel
theorem zs_pow_le : ∀ m, m < 7 → 2 ^ m ≤ 64 := by decide +kernel
theorem zs_full : ∀ m, m < 7 → ∀ p, p < m → (2 ^ m - 1).testBit p = true := by decide +kernel
theorem zs_bits0 : ∀ m, m < 7 → ∀ g, g < 2 ^ m → (∀ p, p < m → g.testBit p = false) → g = 0 := by decide +kernel
theorem zs_0bits : ∀ p, (0 : Nat).testBit p = false := fun p => Nat.zero_testBit p
theorem zs_wo_lt2 {m g p : Nat} (hm : m < 7) (h : g < 2 ^ m) (hp : p < 6) : zs_wo g p < 2 ^ m := by
  have := zs_pow_le m hm
  cases hb : g.testBit p with
  | true => have := zs_wo_lt g (by omega) p hp hb; omega
  | false => rw [zs_wo_no g (by omega) p hp hb]; exact h
def zs_ps (o : Nat → Int32) (g : Nat) : Nat → Int32
  | 0 => 0
  | n + 1 => zs_ps o g n + (if g.testBit n = true then o n else 0)
def zs_mx (f : Nat → Nat) (g : Nat) : Nat → Nat
  | 0 => 0
  | n + 1 => if g.testBit n = true then max (zs_mx f g n) (f (zs_wo g n)) else zs_mx f g n
def zs_tb (val : (Nat → Nat) → Nat → Nat) : Nat → Nat → Nat
  | 0 => fun _ => 0
  | i + 1 => fun j => if j = i then val (zs_tb val i) i else zs_tb val i j
def zs_D (val : (Nat → Nat) → Nat → Nat) (g : Nat) : Nat := zs_tb val (g + 1) g
theorem zs_tb_lt {val : (Nat → Nat) → Nat → Nat} {g : Nat} : ∀ i, g < i → zs_tb val i g = zs_D val g := by
  intro i
  induction i with
  | zero => intro h; omega
  | succ i ih =>
    intro h
    by_cases q : g = i
    · subst q; rfl
    · rw [← ih (by omega)]
      show (if g = i then _ else _) = _
      rw [if_neg q]
theorem zs_D_eq {val : (Nat → Nat) → Nat → Nat} {g : Nat} (h : ∀ f f2, (∀ x, x < g → f x = f2 x) → val f g = val f2 g) : zs_D val g = val (zs_D val) g := by
  show (if g = g then _ else _) = _
  rw [if_pos rfl]
  exact h _ _ (fun x hx => zs_tb_lt g hx)
theorem zs_mx_c {f f2 : Nat → Nat} {g : Nat} (hg : g < 64) (h : ∀ x, x < g → f x = f2 x) : ∀ n, n ≤ 6 → zs_mx f g n = zs_mx f2 g n := by
  intro n
  induction n with
  | zero => intro _; rfl
  | succ n ih =>
    intro hn
    rw [zs_mx, zs_mx, ih (by omega)]
    by_cases hb : g.testBit n = true
    · rw [if_pos hb, if_pos hb, h _ (zs_wo_lt g hg n (by omega) hb)]
    · rw [if_neg hb, if_neg hb]
theorem zs_mx_ge {f : Nat → Nat} {g : Nat} : ∀ n p, p < n → g.testBit p = true → f (zs_wo g p) ≤ zs_mx f g n := by
  intro n
  induction n with
  | zero => intro p h; omega
  | succ n ih =>
    intro p hp hb
    rw [zs_mx]
    by_cases q : p = n
    · subst q; rw [if_pos hb]; omega
    · have := ih p (by omega) hb
      split <;> omega
theorem zs_mx_at {f : Nat → Nat} {g : Nat} : ∀ n, zs_mx f g n = 0 ∨ ∃ p, p < n ∧ g.testBit p = true ∧ zs_mx f g n = f (zs_wo g p) := by
  intro n
  induction n with
  | zero => exact Or.inl rfl
  | succ n ih =>
    rw [zs_mx]
    by_cases hb : g.testBit n = true
    · rw [if_pos hb]
      by_cases q : zs_mx f g n ≤ f (zs_wo g n)
      · exact Or.inr ⟨n, by omega, hb, by omega⟩
      · rcases ih with h | ⟨p, h1, h2, h3⟩
        · omega
        · exact Or.inr ⟨p, by omega, h2, by omega⟩
    · rw [if_neg hb]
      rcases ih with h | ⟨p, h1, h2, h3⟩
      · exact Or.inl h
      · exact Or.inr ⟨p, by omega, h2, h3⟩
theorem zs_mx_b {f : Nat → Nat} {g n : Nat} (hg : g < 64) (hn : n ≤ 6) (h : ∀ x, x < g → f x ≤ x) : zs_mx f g n ≤ g - 1 := by
  rcases zs_mx_at (f := f) (g := g) n with q | ⟨p, h1, h2, h3⟩
  · omega
  · have a := zs_wo_lt g hg p (by omega) h2
    have := h _ a
    omega
theorem zs_ps_wo {o : Nat → Int32} {g p : Nat} (hg : g < 64) (hb : g.testBit p = true) : ∀ n, n ≤ 6 → p < 6 → zs_ps o g n = zs_ps o (zs_wo g p) n + (if p < n then o p else 0) := by
  intro n
  induction n with
  | zero => intro _ _; rw [if_neg (by omega)]; rfl
  | succ n ih =>
    intro hn hp
    rw [zs_ps, zs_ps, ih (by omega) hp, zs_wo_b g hg p hp n (by omega)]
    by_cases q : p = n
    · subst q
      rw [if_neg (c := p < p) (by omega), if_pos hb, if_pos (c := p < p + 1) (by omega)]
      simp
    · have : (g.testBit n && !decide (n = p)) = g.testBit n := by
        rw [decide_eq_false (by omega)]; simp
      rw [this]
      by_cases q2 : p < n
      · rw [if_pos q2, if_pos (c := p < n + 1) (by omega), Int32.add_assoc, Int32.add_assoc, Int32.add_comm (o p)]
      · rw [if_neg q2, if_neg (c := p < n + 1) (by omega), Int32.add_zero, Int32.add_zero]
theorem zs_ps_0 {o : Nat → Int32} : ∀ n, zs_ps o 0 n = 0 := by
  intro n
  induction n with
  | zero => rfl
  | succ n ih => rw [zs_ps, ih, zs_0bits, if_neg (by decide)]; decide
/-- how many of a set owe nothing -/
def zs_cz (o : Nat → Int32) (g : Nat) : Nat → Nat
  | 0 => 0
  | n + 1 => zs_cz o g n + (if g.testBit n = true ∧ o n = 0 then 1 else 0)
theorem zs_cz_wo {o : Nat → Int32} {g p : Nat} (hg : g < 64) (hb : g.testBit p = true) : ∀ n, n ≤ 6 → p < 6 → zs_cz o g n = zs_cz o (zs_wo g p) n + (if p < n ∧ o p = 0 then 1 else 0) := by
  intro n
  induction n with
  | zero => intro _ _; rw [if_neg (by omega)]; rfl
  | succ n ih =>
    intro hn hp
    rw [zs_cz, zs_cz, ih (by omega) hp, zs_wo_b g hg p hp n (by omega)]
    by_cases q : p = n
    · subst q
      rw [if_neg (by omega), if_neg (c := (g.testBit p && !decide (p = p)) = true ∧ o p = 0) (by simp)]
      simp [hb]
    · have : (g.testBit n && !decide (n = p)) = g.testBit n := by
        rw [decide_eq_false (by omega)]; simp
      rw [this]
      by_cases q2 : p < n
      · have e1 : (p < n ∧ o p = 0) ↔ o p = 0 := ⟨fun z => z.2, fun z => ⟨q2, z⟩⟩
        have e2 : (p < n + 1 ∧ o p = 0) ↔ o p = 0 := ⟨fun z => z.2, fun z => ⟨by omega, z⟩⟩
        simp only [e1, e2]; omega
      · rw [if_neg (c := p < n ∧ o p = 0) (by omega), if_neg (c := p < n + 1 ∧ o p = 0) (by omega)]; omega
theorem zs_cz_0 {o : Nat → Int32} {g : Nat} : ∀ n, (∀ p, p < n → ¬ (g.testBit p = true ∧ o p = 0)) → zs_cz o g n = 0 := by
  intro n
  induction n with
  | zero => intro _; rfl
  | succ n ih => intro h; rw [zs_cz, ih (fun p hp => h p (by omega)), if_neg (h n (by omega))]
theorem zs_cz_pos {o : Nat → Int32} {g p : Nat} : ∀ n, p < n → g.testBit p = true ∧ o p = 0 → 0 < zs_cz o g n := by
  intro n
  induction n with
  | zero => intro h; omega
  | succ n ih =>
    intro hp h
    rw [zs_cz]
    by_cases q : p = n
    · subst q; rw [if_pos h]; omega
    · have := ih (by omega) h; omega
theorem zs_ps_A {o : Nat → Int32} {g A : Nat} : ∀ n, (∀ p, p < n → (A.testBit p = true ↔ g.testBit p = true ∧ ¬ o p = 0)) → zs_ps o g n = zs_ps o A n := by
  intro n
  induction n with
  | zero => intro _; rfl
  | succ n ih =>
    intro h
    rw [zs_ps, zs_ps, ih (fun p hp => h p (by omega))]
    have := h n (by omega)
    by_cases a : g.testBit n = true
    · by_cases b : o n = 0
      · rw [if_pos a, b, if_neg (fun z => (this.mp z).2 b)]
      · rw [if_pos a, if_pos (this.mpr ⟨a, b⟩)]
    · rw [if_neg a, if_neg (fun z => a (this.mp z).1)]
def zs_cval (o : Nat → Int32) (M : Nat) (f : Nat → Nat) (g : Nat) : Nat := if g = 0 then 0 else zs_mx f g M + (if zs_ps o g M = 0 then 1 else 0)
def zs_no0 (o : Nat → Int32) (g M : Nat) : Prop := ∀ p, p < M → ¬ (g.testBit p = true ∧ o p = 0)
noncomputable def zs_if1 (p : Prop) : Nat := @ite Nat p (Classical.propDecidable _) 1 0
theorem zs_if1_t {p : Prop} (h : p) : zs_if1 p = 1 := by unfold zs_if1; rw [if_pos h]
theorem zs_if1_f {p : Prop} (h : ¬ p) : zs_if1 p = 0 := by unfold zs_if1; rw [if_neg h]
theorem zs_if1_le {p : Prop} : zs_if1 p ≤ 1 := by
  by_cases h : p
  · rw [zs_if1_t h]; omega
  · rw [zs_if1_f h]; omega
noncomputable def zs_mval (o : Nat → Int32) (M : Nat) (f : Nat → Nat) (g : Nat) : Nat := zs_mx f g M + zs_if1 (zs_ps o g M = 0 ∧ g ≠ 0 ∧ zs_no0 o g M)
theorem zs_mval_e {o : Nat → Int32} {M : Nat} {f : Nat → Nat} {g : Nat} : zs_mval o M f g = zs_mx f g M + zs_if1 (zs_ps o g M = 0 ∧ g ≠ 0 ∧ zs_no0 o g M) := rfl
noncomputable def zs_C (o : Nat → Int32) (M : Nat) : Nat → Nat := zs_D (zs_cval o M)
noncomputable def zs_Mo (o : Nat → Int32) (M : Nat) : Nat → Nat := zs_D (zs_mval o M)
theorem zs_C_eq {o : Nat → Int32} {M g : Nat} (hM : M ≤ 6) (hg : g < 64) : zs_C o M g = zs_cval o M (zs_C o M) g := zs_D_eq (fun f f2 h => by unfold zs_cval; rw [zs_mx_c hg h M hM])
theorem zs_Mo_eq {o : Nat → Int32} {M g : Nat} (hM : M ≤ 6) (hg : g < 64) : zs_Mo o M g = zs_mval o M (zs_Mo o M) g := zs_D_eq (fun f f2 h => by unfold zs_mval; rw [zs_mx_c hg h M hM])
theorem zs_C_le {o : Nat → Int32} {M : Nat} (hM : M ≤ 6) : ∀ g, g < 64 → zs_C o M g ≤ g := by
  intro g
  induction g using Nat.strongRecOn with
  | ind g ih =>
    intro hg
    rw [zs_C_eq hM hg]
    unfold zs_cval
    have := zs_mx_b (f := zs_C o M) (g := g) (n := M) hg hM (fun x hx => ih x hx (by omega))
    by_cases q : g = 0
    · rw [if_pos q]; omega
    · rw [if_neg q]; split <;> omega
theorem zs_Mo_le {o : Nat → Int32} {M : Nat} (hM : M ≤ 6) : ∀ g, g < 64 → zs_Mo o M g ≤ g := by
  intro g
  induction g using Nat.strongRecOn with
  | ind g ih =>
    intro hg
    rw [zs_Mo_eq hM hg, zs_mval_e]
    have := zs_mx_b (f := zs_Mo o M) (g := g) (n := M) hg hM (fun x hx => ih x hx (by omega))
    by_cases q : zs_ps o g M = 0 ∧ g ≠ 0 ∧ zs_no0 o g M
    · rw [zs_if1_t q]; have := q.2.1; omega
    · rw [zs_if1_f q]; omega
/-- the class's count and the reference's, which leaves those out that owe nothing -/
theorem zs_groups {o : Nat → Int32} {M : Nat} (hM : M ≤ 6) : ∀ g, g < 2 ^ M → ∀ A, A < 2 ^ M → (∀ p, p < M → (A.testBit p = true ↔ g.testBit p = true ∧ ¬ o p = 0)) → zs_C o M g = zs_Mo o M A + zs_cz o g M := by
  have h64 := zs_pow_le M (by omega)
  intro g
  induction g using Nat.strongRecOn with
  | ind g ih =>
    intro hg A hA hb
    have hAn : zs_no0 o A M := fun p hp z => ((hb p hp).mp z.1).2 z.2
    rw [zs_C_eq hM (by omega), zs_Mo_eq hM (by omega), zs_mval_e]
    unfold zs_cval
    by_cases q : g = 0
    · subst q
      rw [if_pos rfl, zs_cz_0 M (fun p hp z => by rw [zs_0bits] at z; exact absurd z.1 (by decide)), zs_if1_f (fun z => z.2.1 (zs_bits0 M (by omega) A hA (fun p hp => by
        cases hx : A.testBit p with
        | true => have := ((hb p hp).mp hx).1; rw [zs_0bits] at this; exact absurd this (by decide)
        | false => rfl)))]
      rcases zs_mx_at (f := zs_Mo o M) (g := A) M with z | ⟨p, h1, h2, h3⟩
      · rw [z]
      · have := ((hb p h1).mp h2).1; rw [zs_0bits] at this; exact absurd this (by decide)
    · rw [if_neg q, zs_ps_A M hb]
      have F1 : ∀ p, p < M → g.testBit p = true → o p = 0 → zs_C o M (zs_wo g p) + 1 = zs_Mo o M A + zs_cz o g M := fun p hp h1 h2 => by
        rw [ih _ (zs_wo_lt g (by omega) p (by omega) h1) (zs_wo_lt2 (by omega) hg (by omega)) A hA (fun r hr => by
          rw [hb r hr, zs_wo_b g (by omega) p (by omega) r (by omega)]
          by_cases z : r = p
          · subst z; simp [h2]
          · simp [z]), zs_cz_wo (by omega) h1 M hM (by omega), if_pos ⟨hp, h2⟩]
        omega
      have F2 : ∀ p, p < M → g.testBit p = true → ¬ o p = 0 → A.testBit p = true ∧ zs_C o M (zs_wo g p) = zs_Mo o M (zs_wo A p) + zs_cz o g M := fun p hp h1 h2 => by
        have hAp := (hb p hp).mpr ⟨h1, h2⟩
        refine ⟨hAp, ?_⟩
        rw [ih _ (zs_wo_lt g (by omega) p (by omega) h1) (zs_wo_lt2 (by omega) hg (by omega)) (zs_wo A p) (zs_wo_lt2 (by omega) hA (by omega)) (fun r hr => by
          have := hb r hr
          rw [zs_wo_b g (by omega) p (by omega) r (by omega), zs_wo_b A (by omega) p (by omega) r (by omega)]
          by_cases z : r = p
          · simp [z]
          · simp [z, this]), zs_cz_wo (p := p) (g := g) (by omega) h1 M hM (by omega), if_neg (fun z => h2 z.2)]
        omega
      have eM := zs_Mo_eq (o := o) (M := M) (g := A) hM (by omega)
      rw [zs_mval_e] at eM
      by_cases a0 : A = 0
      · have nob : ∀ p, p < M → g.testBit p = true → o p = 0 := fun p hp h1 => by
          by_cases z : o p = 0
          · exact z
          · have := (hb p hp).mpr ⟨h1, z⟩
            rw [a0, zs_0bits] at this
            exact absurd this (by decide)
        have hps : zs_ps o A M = 0 := by
          rw [a0]
          exact zs_ps_0 M
        have i0 : zs_if1 (zs_ps o A M = 0 ∧ A ≠ 0 ∧ zs_no0 o A M) = 0 := zs_if1_f (fun z => z.2.1 a0)
        rw [if_pos hps, i0]
        rw [i0] at eM
        obtain ⟨b, hb1, hb2⟩ : ∃ b, b < M ∧ g.testBit b = true := by
          refine Classical.byContradiction fun z => q (zs_bits0 M (by omega) g hg (fun p hp => ?_))
          cases hx : g.testBit p with
          | true => exact absurd ⟨p, hp, hx⟩ z
          | false => rfl
        have hc := zs_cz_pos (o := o) (g := g) M hb1 ⟨hb2, nob b hb1 hb2⟩
        have k1 := F1 b hb1 hb2 (nob b hb1 hb2)
        have k2 := zs_mx_ge (f := zs_C o M) (g := g) M b hb1 hb2
        rcases zs_mx_at (f := zs_C o M) (g := g) M with z | ⟨p, h1, h2, h3⟩
        · omega
        · have := F1 p h1 h2 (nob p h1 h2)
          omega
      · obtain ⟨a, ha1, ha2⟩ : ∃ a, a < M ∧ A.testBit a = true := by
          refine Classical.byContradiction fun z => a0 (zs_bits0 M (by omega) A hA (fun p hp => ?_))
          cases hx : A.testBit p with
          | true => exact absurd ⟨p, hp, hx⟩ z
          | false => rfl
        have hX : zs_mx (zs_C o M) g M = zs_mx (zs_Mo o M) A M + zs_cz o g M := by
          refine Nat.le_antisymm ?_ ?_
          · rcases zs_mx_at (f := zs_C o M) (g := g) M with z | ⟨p, h1, h2, h3⟩
            · omega
            · by_cases hz : o p = 0
              · have := F1 p h1 h2 hz
                have : zs_if1 (zs_ps o A M = 0 ∧ A ≠ 0 ∧ zs_no0 o A M) ≤ 1 := zs_if1_le
                omega
              · obtain ⟨k1, k2⟩ := F2 p h1 h2 hz
                have := zs_mx_ge (f := zs_Mo o M) (g := A) M p h1 k1
                omega
          · rcases zs_mx_at (f := zs_Mo o M) (g := A) M with z | ⟨p, h1, h2, h3⟩
            · obtain ⟨k1, k2⟩ := (hb a ha1).mp ha2
              have := (F2 a ha1 k1 k2).2
              have := zs_mx_ge (f := zs_C o M) (g := g) M a ha1 k1
              omega
            · obtain ⟨k1, k2⟩ := (hb p h1).mp h2
              have := (F2 p h1 k1 k2).2
              have := zs_mx_ge (f := zs_C o M) (g := g) M p h1 k1
              omega
        rw [hX]
        clear eM F1 F2 ih hX
        by_cases hp : zs_ps o A M = 0
        · have i1 : zs_if1 (zs_ps o A M = 0 ∧ A ≠ 0 ∧ zs_no0 o A M) = 1 := zs_if1_t ⟨hp, a0, hAn⟩
          rw [if_pos hp, i1]; omega
        · have i1 : zs_if1 (zs_ps o A M = 0 ∧ A ≠ 0 ∧ zs_no0 o A M) = 0 := zs_if1_f (fun z => hp z.1)
          rw [if_neg hp, i1]; omega
