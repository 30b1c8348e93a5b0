theorem zp_pay {S : sy_St} {M : Nat} {v : Nat → Int32} (hM : S 1 8 = nI M) (h6 : M ≤ 6) (hv : zv_K S 45 = v) : zz_wp (m_Debts_fewestPayments 45 S) (fun r S1 => r = nI M - nI (zs_C (zs_owe v M) M (2 ^ M - 1)) ∧ zf_o S S1 389 390) := by
  have h64 := zs_pow_le M (by omega)
  have hpos : 0 < 2 ^ M := Nat.two_pow_pos M
  generalize ho : zs_owe v M = o
  have d0 : (0 : Int32).toNatClampNeg = 0 := rfl
  have cl : ∀ i, i < 64 → (nI i).toNatClampNeg = i := fun i hi => zz_cl (by omega)
  have i64 : ∀ i, i < 64 → sy_in (nI i) 64 = True := fun i hi => eq_true (zz_in hi (by omega))
  unfold m_Debts_fewestPayments
  rw [hM, zs_pow_I M (by omega)]
  simp only [zz_b, d0]
  have C0 : zs_C o M 0 = 0 := by have := zs_C_le (o := o) h6 0 (by omega); omega
  obtain ⟨S0, hS0⟩ : ∃ S0, S0 = sy_up (sy_up S 389 0 0) 390 0 0 := ⟨_, rfl⟩
  rw [← hS0]
  have hf0 : zf_o S S0 389 390 := fun i hi => by rw [hS0, zz_up1 (by omega), zz_up1 (by omega)]
  have h01 : S0 389 0 = 0 := by rw [hS0, zz_up, if_neg (by decide), zz_up, if_pos rfl, if_pos rfl]
  have h02 : S0 390 0 = 0 := by rw [hS0, zz_up, if_pos rfl, if_pos rfl]
  refine zz_loopX (ap := fun (k : zt_2) (t : Nat × sy_St) => k (nI (2 ^ M)) (nI t.1) t.2) (fun t => 2 ^ M - t.1) (fun t => 1 ≤ t.1 ∧ t.1 ≤ 2 ^ M ∧ zf_o S t.2 389 390 ∧ ∀ x, x < t.1 → t.2 389 x = zs_ps o x M ∧ t.2 390 x = nI (zs_C o M x)) ?_ sy_F (1, S0) (zz_F (by simp only; omega)) ⟨by simp only; omega, by simp only; omega, hf0, fun x hx => by
    simp only at hx ⊢
    obtain rfl : x = 0 := by omega
    rw [C0, zs_ps_0]
    exact ⟨h01, h02⟩⟩
  rintro k ⟨g, S1⟩ ⟨h1, hi, hf, hx⟩ hk
  simp only at h1 hi hf hx hk ⊢
  unfold m_Debts_fewestPayments_B26
  rw [zz_i]
  refine ⟨fun hle => ?_, fun hn => ?_⟩
  · have := nI_eq_of hle hi (by omega)
    subst this
    rw [zz_b, show (1 : Int32) = nI 1 from rfl, pk_sub (by omega), zz_g, zz_some, cl _ (by omega), (hx _ (by omega)).2, hf 1 (by omega), hM]
    exact ⟨zz_in (by omega) (by omega), rfl, hf⟩
  · have hi2 := nI_lt_of hn (by omega) (by omega)
    rw [zz_g, zz_b, cl _ (by omega)]
    refine ⟨zz_in (by omega) (by omega), ?_⟩
    refine zz_loopX (ap := fun (k : zt_3) (t : Nat × sy_St) => k (nI (2 ^ M)) (nI g) (nI t.1) t.2) (fun t => M - t.1) (fun t => t.1 ≤ M ∧ zf_o S t.2 389 390 ∧ (∀ x, x < g → t.2 389 x = zs_ps o x M ∧ t.2 390 x = nI (zs_C o M x)) ∧ t.2 390 g = nI (zs_mx (zs_C o M) g t.1) ∧ ((∃ q, q < t.1 ∧ g.testBit q = true) → t.2 389 g = zs_ps o g M)) ?_ sy_F (0, sy_up S1 390 g 0) (zz_F (by simp only; omega)) ⟨by simp only; omega, fun i h => by simp only; rw [zz_up1 (by omega), hf i h], fun x h => by simp only; rw [zz_up, zz_up, if_neg (by omega), if_pos rfl, if_neg (by omega)]; exact hx x h, by simp only; rw [zz_up, if_pos rfl, if_pos rfl]; rfl, fun ⟨q, hq, _⟩ => absurd hq (by simp only; omega)⟩
    rintro k2 ⟨p, S2⟩ ⟨hp, hf2, hx2, hg1, hg2⟩ hk2
    simp only at hp hf2 hx2 hg1 hg2 hk2 ⊢
    unfold m_Debts_fewestPayments_B41
    rw [zz_i, hf2 1 (by omega), hM]
    refine ⟨fun hle => ?_, fun hn2 => ?_⟩
    · have := nI_eq_of hle hp (by omega)
      subst this
      have hbit : ∃ q, q < p ∧ g.testBit q = true := by
        refine Classical.byContradiction fun z => absurd (zs_bits0 p (by omega) g hi2 (fun q hq => ?_)) (by omega)
        cases hx : g.testBit q with
        | true => exact absurd ⟨q, hq, hx⟩ z
        | false => rfl
      have e9 := hg2 hbit
      have hC : zs_C o p g = zs_mx (zs_C o p) g p + (if zs_ps o g p = 0 then 1 else 0) := by
        rw [zs_C_eq h6 (by omega), zs_cval, if_neg (by omega)]
      simp only [i64 g (by omega), zz_g, true_and, zz_i, zz_b, cl g (by omega), e9, nI_1]
      refine ⟨fun h0 => ?_, fun h0 => ?_⟩
      · rw [if_pos h0] at hC
        refine hk (g + 1, sy_up S2 390 g (S2 390 g + 1)) ⟨by simp only; omega, by simp only; omega, fun i h => by simp only; rw [zz_up1 (by omega), hf2 i h], fun x h => ?_⟩ (by simp only; omega)
        simp only at h ⊢
        rw [zz_up, zz_up, if_neg (by omega), if_pos rfl]
        by_cases q : x = g
        · subst q; rw [if_pos rfl, hg1, nI_1, hC, e9]; exact ⟨rfl, rfl⟩
        · rw [if_neg q]; exact hx2 x (by omega)
      · rw [if_neg h0] at hC
        refine hk (g + 1, S2) ⟨by simp only; omega, by simp only; omega, hf2, fun x h => ?_⟩ (by simp only; omega)
        simp only at h ⊢
        by_cases q : x = g
        · subst q; rw [hg1, hC, e9]; exact ⟨rfl, rfl⟩
        · exact hx2 x (by omega)
    · have hi3 := nI_lt_of hn2 (by omega) (by omega)
      rw [zz_b, zs_wo_I g (by omega) p (by omega)]
      cases hb : g.testBit p with
      | false =>
        rw [zs_wo_no g (by omega) p (by omega) hb, zz_i]
        refine ⟨fun _ => ?_, fun z => absurd rfl z⟩
        rw [zz_b, nI_1]
        refine hk2 (p + 1, S2) ⟨by simp only; omega, hf2, hx2, by simp only; rw [zs_mx, if_neg (by rw [hb]; decide), hg1], fun ⟨q, hq, hq2⟩ => hg2 ⟨q, ?_, hq2⟩⟩ (by simp only; omega)
        simp only at hq
        by_cases z : q = p
        · subst z; rw [hb] at hq2; exact absurd hq2 (by decide)
        · omega
      | true =>
        have hlt := zs_wo_lt g (by omega) p (by omega) hb
        have hw2 := hx2 _ hlt
        rw [zz_i]
        refine ⟨fun z => absurd ((nI_eq (by omega) (by omega)).mp z) (by omega), fun _ => ?_⟩
        have ho2 : m_Debts_ofOne 45 (nI p) S2 = some (o p, S2) := by
          rw [zp_owe (by rw [hf2 1 (by omega), hM]) h6 hi3, zf_K hf2 (by omega), hv, ho]
        simp only [i64 g (by omega), i64 _ (show zs_wo g p < 64 by omega), zz_g, true_and, zz_b, zz_c, ho2, zz_some, cl g (by omega), cl _ (show zs_wo g p < 64 by omega), nI_1]
        have hCl := zs_C_le (o := o) h6 (zs_wo g p) (by omega)
        have hml := zs_mx_b (f := zs_C o M) (g := g) (n := p) (by omega) (by omega) (fun x hx => zs_C_le h6 x (by omega))
        refine hk2 (p + 1, sy_up (sy_up S2 389 g (S2 389 (zs_wo g p) + o p)) 390 g (sy_max (S2 390 g) (S2 390 (zs_wo g p)))) ⟨by simp only; omega, fun i h => by simp only; rw [zz_up1 (by omega), zz_up1 (by omega), hf2 i h], fun x h => ?_, ?_, fun _ => ?_⟩ (by simp only; omega)
        · simp only
          simp only [zz_up, show ¬ 389 = 390 by decide, if_false, if_true]
          rw [if_neg (by omega), if_neg (by omega)]
          exact hx2 x h
        · simp only
          simp only [zz_up, show ¬ 390 = 389 by decide, show ¬ 389 = 390 by decide, if_false, if_true]
          rw [hg1, hw2.2, zz_max, zs_mx, if_pos hb]
          by_cases q : zs_mx (zs_C o M) g p < zs_C o M (zs_wo g p)
          · rw [if_pos (nI_lt q (by omega)), Nat.max_eq_right (by omega)]
          · rw [if_neg (nI_nlt (by omega) (by omega)), Nat.max_eq_left (by omega)]
        · simp only
          simp only [zz_up, show ¬ 389 = 390 by decide, if_false, if_true]
          have z := zs_ps_wo (o := o) (by omega) hb M h6 (by omega)
          rw [if_pos hi3] at z
          rw [hw2.1, z]

theorem zq_has {S : sy_St} {g p : Nat} (hg : g < 64) (hp : p < 6) : m_Model_has (nI g) (nI p) S = some (if g.testBit p = true then 1 else 0, S) := by
  unfold m_Model_has
  have := zs_has_I g hg p hp
  by_cases h : g.testBit p = true
  · rw [if_pos (this.mpr h), if_pos h]
  · rw [if_neg (fun z => h (this.mp z)), if_neg h]
/-- how many owe something -/
def zs_off (o : Nat → Int32) : Nat → Nat
  | 0 => 0
  | n + 1 => zs_off o n + (if o n = 0 then 0 else 1)
/-- all but those among the first n that owe nothing -/
def zs_nz (o : Nat → Int32) (M : Nat) : Nat → Nat
  | 0 => 2 ^ M - 1
  | n + 1 => if o n = 0 then zs_wo (zs_nz o M n) n else zs_nz o M n
theorem zs_nz_lt {o : Nat → Int32} {M : Nat} (hM : M ≤ 6) : ∀ n, n ≤ M → zs_nz o M n < 2 ^ M := by
  intro n
  induction n with
  | zero => intro _; have := Nat.two_pow_pos M; rw [zs_nz]; omega
  | succ n ih =>
    intro h
    rw [zs_nz]
    split
    · exact zs_wo_lt2 (by omega) (ih (by omega)) (by omega)
    · exact ih (by omega)
theorem zs_nz_b {o : Nat → Int32} {M q : Nat} (hM : M ≤ 6) (hq : q < M) : ∀ n, n ≤ M → ((zs_nz o M n).testBit q = true ↔ ¬ (q < n ∧ o q = 0)) := by
  have h64 := zs_pow_le M (by omega)
  intro n
  induction n with
  | zero => intro _; rw [zs_nz, zs_full M (by omega) q hq]; simp
  | succ n ih =>
    intro h
    have ih := ih (by omega)
    have hl := zs_nz_lt (o := o) hM n (by omega)
    rw [zs_nz]
    by_cases h0 : o n = 0
    · rw [if_pos h0, zs_wo_b _ (by omega) n (by omega) q (by omega)]
      by_cases z : q = n
      · subst z; simp [h0]
      · simp only [z, decide_false, Bool.not_false, Bool.and_true, ih]
        constructor
        · intro a b; exact a ⟨by omega, b.2⟩
        · intro a b; exact a ⟨by omega, b.2⟩
    · rw [if_neg h0, ih]
      constructor
      · intro a b
        by_cases z : q = n
        · subst z; exact h0 b.2
        · exact a ⟨by omega, b.2⟩
      · intro a b; exact a ⟨by omega, b.2⟩
theorem zs_off_cz {o : Nat → Int32} {g : Nat} : ∀ n, (∀ q, q < n → g.testBit q = true) → zs_off o n + zs_cz o g n = n := by
  intro n
  induction n with
  | zero => intro _; rfl
  | succ n ih =>
    intro h
    have := ih (fun q hq => h q (by omega))
    rw [zs_off, zs_cz]
    by_cases z : o n = 0
    · rw [if_pos z, if_pos ⟨h n (by omega), z⟩]; omega
    · rw [if_neg z, if_neg (fun y => z y.2)]; omega
theorem zs_pay_eq {o : Nat → Int32} {M : Nat} (hM : M ≤ 6) : nI M - nI (zs_C o M (2 ^ M - 1)) = nI (zs_off o M) - nI (zs_Mo o M (zs_nz o M M)) := by
  have h64 := zs_pow_le M (by omega)
  have hp := Nat.two_pow_pos M
  have hc := zs_groups (o := o) hM (2 ^ M - 1) (by omega) (zs_nz o M M) (zs_nz_lt hM M (by omega)) (fun p hp => by
    rw [zs_nz_b hM hp M (by omega), zs_full M (by omega) p hp]
    constructor
    · intro a; exact ⟨rfl, fun b => a ⟨hp, b⟩⟩
    · intro a b; exact a.2 b.2)
  have h2 := zs_off_cz (o := o) (g := 2 ^ M - 1) M (fun q hq => zs_full M (by omega) q hq)
  rw [hc]
  have : nI M = nI (zs_off o M) + nI (zs_cz o (2 ^ M - 1) M) := by rw [nI_add, h2]
  rw [this, ← nI_add]
  generalize nI (zs_off o M) = a
  generalize nI (zs_cz o (2 ^ M - 1) M) = b
  generalize nI (zs_Mo o M (zs_nz o M M)) = x
  grind
