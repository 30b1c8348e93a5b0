/-! ===== rows that never sink too low: what both sides keep ===== -/
def zu_U (e : Nat → Nat → Int32) (wc M : Nat) (v : Nat → Int32) (n : Nat) (lim : Int32) (c g : Nat) : Prop := ∀ i, i < g → zs_run e wc M v (zs_dig M n c) (i + 1) 1 ≤ lim
def zu_none (P : Nat → Prop) (c : Nat) : Prop := ∀ x, x < c → ¬ P x
def zu_best (P : Nat → Prop) (mo : Nat → Nat) (c c0 : Nat) : Prop := c0 < c ∧ P c0 ∧ (∀ x, x < c0 → P x → mo c0 < mo x) ∧ ∀ x, x < c → P x → mo c0 ≤ mo x
theorem zu_none_s {P : Nat → Prop} {c c2 : Nat} (_hc : c ≤ c2) (h : ∀ x, c ≤ x → x < c2 → ¬ P x) (a : zu_none P c) : zu_none P c2 := fun x hx => by
  by_cases q : x < c
  · exact a x q
  · exact h x (by omega) hx
theorem zu_best_s {P : Nat → Prop} {mo : Nat → Nat} {c c2 c0 : Nat} (hc : c ≤ c2) (h : ∀ x, c ≤ x → x < c2 → P x → mo c0 ≤ mo x) (a : zu_best P mo c c0) : zu_best P mo c2 c0 := by
  obtain ⟨a1, a2, a3, a4⟩ := a
  refine ⟨by omega, a2, a3, fun x hx hp => ?_⟩
  by_cases q : x < c
  · exact a4 x q hp
  · exact h x (by omega) hx hp
theorem zu_best_u {P : Nat → Prop} {mo : Nat → Nat} {c c0 c1 : Nat} (a : zu_best P mo c c0) (b : zu_best P mo c c1) : c0 = c1 := by
  obtain ⟨a1, a2, a3, a4⟩ := a
  obtain ⟨b1, b2, b3, b4⟩ := b
  rcases Nat.lt_trichotomy c0 c1 with q | q | q
  · have := b3 c0 q a2; have := a4 c1 b1 b2; omega
  · exact q
  · have := a3 c1 q b2; have := b4 c0 a1 a2; omega
theorem zu_best_n {P : Nat → Prop} {mo : Nat → Nat} {c c0 : Nat} (a : zu_best P mo c c0) (b : zu_none P c) : False := b c0 a.1 a.2.1
theorem zu_new {P : Nat → Prop} {mo : Nat → Nat} {c : Nat} (hP : P c) (h : ∀ x, x < c → P x → mo c < mo x) : zu_best P mo (c + 1) c := ⟨by omega, hP, h, fun x hx hp => by
  by_cases q : x = c
  · subst q; exact Nat.le_refl _
  · exact Nat.le_of_lt (h x (by omega) hp)⟩
def zu_D (U : Nat → Nat → Prop) (n c d x : Nat) : Prop := x ≤ n ∧ d ≤ x ∧ (x ≤ d ∨ ∃ y, y < c ∧ U y x) ∧ ∀ y g, y < c → g ≤ n → U y g → g ≤ x
theorem zu_D_u {U : Nat → Nat → Prop} {n c x y : Nat} (a : zu_D U n c 0 x) (b : zu_D U n c 0 y) : x = y := by
  obtain ⟨a1, -, a3, a4⟩ := a
  obtain ⟨b1, -, b3, b4⟩ := b
  have h1 : x ≤ y := by
    rcases a3 with q | ⟨z, z1, z2⟩
    · omega
    · exact b4 z x z1 a1 z2
  have h2 : y ≤ x := by
    rcases b3 with q | ⟨z, z1, z2⟩
    · omega
    · exact a4 z y z1 b1 z2
  omega
theorem zs_most_ge {dg : Nat → Nat} {n j : Nat} : ∀ m, j < m → zs_cnt dg j n ≤ zs_most dg n m := by
  intro m
  induction m with
  | zero => intro h; omega
  | succ m ih =>
    intro h
    rw [zs_most]
    by_cases q : j = m
    · subst q; omega
    · have := ih (by omega); omega
theorem zs_cnt_0 {dg : Nat → Nat} {M q : Nat} (hq : M ≤ q) : ∀ n, (∀ i, i < n → dg i < M) → zs_cnt dg q n = 0 := by
  intro n
  induction n with
  | zero => intro _; rfl
  | succ n ih =>
    intro h
    rw [zs_cnt, ih (fun i hi => h i (by omega)), if_neg (fun z => by have := h n (by omega); omega)]
theorem zs_most_M {dg : Nat → Nat} {M n : Nat} (h : ∀ i, i < n → dg i < M) : ∀ k, zs_most dg n (M + k) = zs_most dg n M := by
  intro k
  induction k with
  | zero => rfl
  | succ k ih => rw [← Nat.add_assoc, zs_most, ih, zs_cnt_0 (by omega) n h, Nat.max_zero]
/-! the class -/
def zu_A (S : sy_St) (P : Nat → Prop) (mo : Nat → Nat) (M n c : Nat) : Prop := (S 370 6 = nI 6 ∧ zu_none P c) ∨ ∃ c0, zu_best P mo c c0 ∧ S 370 6 = nI (mo c0) ∧ ∀ i, i < n → S 373 i = nI (zs_dig M n c0 i)
theorem zu_A_f {S S1 : sy_St} {P : Nat → Prop} {mo : Nat → Nat} {M n c : Nat} (h6 : S1 370 6 = S 370 6) (h : S1 373 = S 373) (a : zu_A S P mo M n c) : zu_A S1 P mo M n c := by
  unfold zu_A at a ⊢
  rw [h6, h]
  exact a
def zu_f (S S1 : sy_St) (d : Nat) : Prop := (∀ i, i ≠ 370 → i ≠ 371 → i ≠ 373 → (i < 10 + 5 * (d + 1) ∨ 34 < i) → S1 i = S i) ∧ (∀ j, j ≠ 6 → j ≠ 7 → S1 370 j = S 370 j) ∧ ∀ j, j < d → S1 371 j = S 371 j
theorem zu_f_refl {S : sy_St} {d : Nat} : zu_f S S d := ⟨fun _ _ _ _ _ => rfl, fun _ _ _ => rfl, fun _ _ => rfl⟩
theorem zu_f_trans {S S1 S2 : sy_St} {d : Nat} (h : zu_f S S1 d) (g : zu_f S1 S2 d) : zu_f S S2 d := ⟨fun i a b c x => (g.1 i a b c x).trans (h.1 i a b c x), fun j a b => (g.2.1 j a b).trans (h.2.1 j a b), fun j a => (g.2.2 j a).trans (h.2.2 j a)⟩
def zu_L (S : sy_St) (e : Nat → Nat → Int32) (wc M n : Nat) (v : Nat → Int32) (lim : Int32) (d p : Nat) : Prop :=
  ze_C S e wc M ∧ S 370 4 = nI n ∧ S 370 8 = lim ∧ (∀ i, i < d → S 371 i = nI (zs_dig M d p i)) ∧ (∀ q, q < 6 → S 372 q = nI (zs_cnt (zs_dig M d p) q d)) ∧ (d < n → zv_K S (10 + 5 * d) = zs_run e wc M v (zs_dig M d p) d)
theorem zu_L_f {S S1 : sy_St} {e : Nat → Nat → Int32} {wc M n : Nat} {v : Nat → Int32} {lim : Int32} {d p : Nat} (hn : n ≤ 5) (h : zu_L S e wc M n v lim d p) (f : zu_f S S1 d) : zu_L S1 e wc M n v lim d p := by
  obtain ⟨l1, l2, l3, l4, l5, l6⟩ := h
  obtain ⟨f1, f2, f3⟩ := f
  refine ⟨zr_eC (fun i a b => f1 i (by omega) (by omega) (by omega) (by omega)) l1, by rw [f2 4 (by omega) (by omega), l2], by rw [f2 8 (by omega) (by omega), l3], fun i hi => by rw [f3 i hi]; exact l4 i hi, fun q hq => by rw [f1 372 (by omega) (by omega) (by omega) (by omega)]; exact l5 q hq, fun hd => ?_⟩
  rw [← l6 hd]
  exact zv_Kc (fun i j a b => by rw [f1 i (by omega) (by omega) (by omega) (by omega)])
theorem zp_endRow_h {S : sy_St} {P : Nat → Prop} {M n c : Nat} (h6 : M ≤ 6) (h0 : 0 < M) (hn : n ≤ 5) (hP : P c) (hr : ∀ i, i < n → S 371 i = nI (zs_dig M n c i)) (ho : ∀ q, q < 6 → S 372 q = nI (zs_cnt (zs_dig M n c) q n)) (hA : zu_A S P (fun x => zs_most (zs_dig M n x) n M) M n c) : zz_wp (m_Shift_endRow S) (fun _ S1 => zu_f S S1 n ∧ S1 370 7 = S 370 7 ∧ zu_A S1 P (fun x => zs_most (zs_dig M n x) n M) M n (c + 1)) := by
  have hmo : ∀ x, zs_most (zs_dig M n x) n M ≤ n := fun x => zs_most_le M
  unfold m_Shift_endRow
  refine zz_loopX (ap := fun (k : zt_2) (q : Nat) => k (nI (zs_most (zs_dig M n c) n q)) (nI q) S) (fun q => 6 - q) (fun q => q ≤ 6) ?_ sy_F 0 (zz_F (by omega)) (by omega)
  intro k q hq hk
  unfold m_Shift_endRow_B4
  rw [zz_i]
  refine ⟨fun hle6 => ?_, fun hn6 => ?_⟩
  · have hq6 : q = 6 := by
      rcases Nat.lt_or_ge q 6 with x | x
      · exact absurd hle6 (by rw [show (6 : Int32) = nI 6 from rfl]; exact nI_ge x (by omega))
      · omega
    subst hq6
    have e6 : zs_most (zs_dig M n c) n 6 = zs_most (zs_dig M n c) n M := by
      have := zs_most_M (dg := zs_dig M n c) (n := n) (M := M) (fun i _ => zs_dig_lt h0) (6 - M)
      rwa [show M + (6 - M) = 6 by omega] at this
    rw [e6, zz_i]
    have hm := hmo c
    have hnew : (∀ x, x < c → P x → zs_most (zs_dig M n c) n M < zs_most (zs_dig M n x) n M) → zz_wp (sy_b (sy_up S 370 6 (nI (zs_most (zs_dig M n c) n M))) fun S3 => sy_b (sy_cp S3 371 373 0 0 5) fun S4 => some (0, S4)) (fun _ S1 => zu_f S S1 n ∧ S1 370 7 = S 370 7 ∧ zu_A S1 P (fun x => zs_most (zs_dig M n x) n M) M n (c + 1)) := fun hb => by
      have e5 : (5 : Int32).toNatClampNeg = 5 := rfl
      have e0 : (0 : Int32).toNatClampNeg = 0 := rfl
      rw [zz_b, zz_b, zz_some]
      refine ⟨⟨fun i i1 i2 i3 _ => ?_, fun j j1 j2 => ?_, fun j _ => ?_⟩, ?_, Or.inr ⟨c, zu_new hP hb, ?_, fun i hi => ?_⟩⟩
      · funext j; simp only [zz_up, zz_cp, i1, i3, if_false]
      · simp [zz_up, zz_cp, j1]
      · simp [zz_up, zz_cp]
      · simp [zz_up, zz_cp]
      · simp [zz_up, zz_cp]
      · simp [zz_up, zz_cp, e5, e0, show i < 5 by omega, hr i hi]
    refine ⟨fun h => hnew ?_, fun h => ?_⟩
    · rcases hA with ⟨a1, a2⟩ | ⟨c0, a1, a2, a3⟩
      · exact fun x hx hp => absurd hp (a2 x hx)
      · have hm0 := hmo c0
        rw [show S 370 6 = nI (zs_most (zs_dig M n c0) n M) from a2] at h
        have := (nI_ltI (by omega) (by omega)).mp h
        exact fun x hx hp => Nat.lt_of_lt_of_le this (a1.2.2.2 x hx hp)
    · rw [zz_some]
      rcases hA with ⟨a1, a2⟩ | ⟨c0, a1, a2, a3⟩
      · rw [a1] at h; exact absurd (nI_lt (show zs_most (zs_dig M n c) n M < 6 by omega) (by omega)) h
      · have hm0 := hmo c0
        rw [show S 370 6 = nI (zs_most (zs_dig M n c0) n M) from a2] at h
        have : zs_most (zs_dig M n c0) n M ≤ zs_most (zs_dig M n c) n M := by
          rcases Nat.lt_or_ge (zs_most (zs_dig M n c) n M) (zs_most (zs_dig M n c0) n M) with q | q
          · exact absurd (nI_lt q (by omega)) h
          · exact q
        refine ⟨zu_f_refl, rfl, Or.inr ⟨c0, zu_best_s (by omega) (fun x x1 x2 _ => ?_) a1, a2, a3⟩⟩
        rw [show x = c by omega]; exact this
  · have hq2 : q < 6 := nI_lt_of (n := 6) hn6 (by omega) (by omega)
    have hk := hk (q + 1) (by omega) (by omega)
    have h1 := zs_most_le (dg := zs_dig M n c) (n := n) q
    have h2 := zs_cnt_le (dg := zs_dig M n c) (p := q) n
    rw [zs_most] at hk
    rw [zz_g, zz_b, zz_b, nI_1]
    simp only [zz_cl (show q < 2147483648 by omega), ho q hq2]
    refine ⟨zz_in (by omega) (by omega), ?_⟩
    rw [show sy_max (nI (zs_most (zs_dig M n c) n q)) (nI (zs_cnt (zs_dig M n c) q n)) = nI (max (zs_most (zs_dig M n c) n q) (zs_cnt (zs_dig M n c) q n)) from ?_]
    · exact hk
    · unfold sy_max
      by_cases z : zs_most (zs_dig M n c) n q < zs_cnt (zs_dig M n c) q n
      · rw [if_pos (nI_lt z (by omega)), Nat.max_eq_right (by omega)]
      · rw [if_neg (nI_nlt (by omega) (by omega)), Nat.max_eq_left (by omega)]
