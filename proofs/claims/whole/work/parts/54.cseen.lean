/-! ===== the rows by which it is as it was seen: the class ===== -/
/-- how many codes below c are good, and who is in all of their rows -/
noncomputable def zs_sn (good : Nat → Prop) (mk : Nat → Int32) (all : Int32) : Nat → Nat × Int32
  | 0 => (0, all)
  | c + 1 => @ite _ (good c) (Classical.propDecidable _) ((zs_sn good mk all c).1 + 1, (zs_sn good mk all c).2 &&& mk c) (zs_sn good mk all c)
theorem zs_sn_y {good : Nat → Prop} {mk : Nat → Int32} {all : Int32} {c : Nat} (h : good c) : zs_sn good mk all (c + 1) = ((zs_sn good mk all c).1 + 1, (zs_sn good mk all c).2 &&& mk c) := by
  rw [zs_sn, if_pos h]
theorem zs_sn_n {good : Nat → Prop} {mk : Nat → Int32} {all : Int32} {c : Nat} (h : ¬ good c) : zs_sn good mk all (c + 1) = zs_sn good mk all c := by
  rw [zs_sn, if_neg h]
theorem zs_sn_skip {good : Nat → Prop} {mk : Nat → Int32} {all : Int32} {lo : Nat} : ∀ k, (∀ c, lo ≤ c → c < lo + k → ¬ good c) → zs_sn good mk all (lo + k) = zs_sn good mk all lo := by
  intro k
  induction k with
  | zero => intro _; rfl
  | succ k ih => intro h; rw [← Nat.add_assoc, zs_sn_n (h _ (by omega) (by omega)), ih (fun c a b => h c a (by omega))]
theorem zs_sn_le {good : Nat → Prop} {mk : Nat → Int32} {all : Int32} : ∀ c, (zs_sn good mk all c).1 ≤ c := by
  intro c
  induction c with
  | zero => exact Nat.le_refl _
  | succ c ih =>
    by_cases h : good c
    · rw [zs_sn_y h]; simp only; omega
    · rw [zs_sn_n h]; omega
theorem zs_sn_0 {good : Nat → Prop} {mk : Nat → Int32} {all : Int32} : ∀ c, (zs_sn good mk all c).1 = 0 → ((zs_sn good mk all c).2 = all ∧ ∀ x, x < c → ¬ good x) := by
  intro c
  induction c with
  | zero => intro _; exact ⟨rfl, fun x hx => absurd hx (Nat.not_lt_zero _)⟩
  | succ c ih =>
    intro h
    by_cases g : good c
    · rw [zs_sn_y g] at h; exact absurd h (by simp)
    · rw [zs_sn_n g] at h ⊢
      obtain ⟨a, b⟩ := ih h
      refine ⟨a, fun x hx => ?_⟩
      by_cases q : x = c
      · subst q; exact g
      · exact b x (by omega)
/-- the accumulators of the class, when the codes below c are through -/
def zr_A (S : sy_St) (good : Nat → Prop) (mk : Nat → Int32) (all : Int32) (M n c : Nat) : Prop :=
  S 374 8 = nI (zs_sn good mk all c).1 ∧ (0 < (zs_sn good mk all c).1 → S 374 9 = (zs_sn good mk all c).2 ∧ ∃ c0, c0 < c ∧ good c0 ∧ (∀ x, x < c0 → ¬ good x) ∧ ∀ i, i < n → S 378 i = nI (zs_dig M n c0 i)) ∧ ((zs_sn good mk all c).1 = 0 → S 374 9 = 0)
theorem zr_A_skip {S : sy_St} {good : Nat → Prop} {mk : Nat → Int32} {all : Int32} {M n c c2 : Nat} (hc : c ≤ c2) (h : ∀ x, c ≤ x → x < c2 → ¬ good x) (a : zr_A S good mk all M n c) : zr_A S good mk all M n c2 := by
  obtain ⟨k, rfl⟩ : ∃ k, c2 = c + k := ⟨c2 - c, by omega⟩
  obtain ⟨a1, a2, a3⟩ := a
  unfold zr_A
  rw [zs_sn_skip k h]
  refine ⟨a1, fun q => ?_, a3⟩
  obtain ⟨b1, c0, b2, b3⟩ := a2 q
  exact ⟨b1, c0, by omega, b3⟩
theorem zr_A_f {S S1 : sy_St} {good : Nat → Prop} {mk : Nat → Int32} {all : Int32} {M n c : Nat} (h8 : S1 374 8 = S 374 8) (h9 : S1 374 9 = S 374 9) (h : S1 378 = S 378) (a : zr_A S good mk all M n c) : zr_A S1 good mk all M n c := by
  unfold zr_A at a ⊢
  rw [h8, h9, h]
  exact a
/-- what the search of the class may change at a level -/
def zr_f (S S1 : sy_St) (d : Nat) : Prop := (∀ i, i ≠ 374 → i ≠ 375 → i ≠ 378 → (i < 10 + 5 * (d + 1) ∨ 34 < i) → S1 i = S i) ∧ (∀ j, j ≠ 8 → j ≠ 9 → S1 374 j = S 374 j) ∧ ∀ j, j < d → S1 375 j = S 375 j
theorem zr_f_refl {S : sy_St} {d : Nat} : zr_f S S d := ⟨fun _ _ _ _ _ => rfl, fun _ _ _ => rfl, fun _ _ => rfl⟩
theorem zr_f_trans {S S1 S2 : sy_St} {d : Nat} (h : zr_f S S1 d) (g : zr_f S1 S2 d) : zr_f S S2 d := ⟨fun i a b c x => (g.1 i a b c x).trans (h.1 i a b c x), fun j a b => (g.2.1 j a b).trans (h.2.1 j a b), fun j a => (g.2.2 j a).trans (h.2.2 j a)⟩
theorem zr_f_mono {S S1 : sy_St} {d : Nat} (h : zr_f S S1 (d + 1)) : zr_f S S1 d := ⟨fun i a b c x => h.1 i a b c (by omega), h.2.1, fun j a => h.2.2 j (by omega)⟩
/-- a whole row: the end -/
theorem zp_endRow_s {S : sy_St} {good : Nat → Prop} {all : Int32} {M n c : Nat} (h6 : M ≤ 6) (h0 : 0 < M) (hn : n ≤ 5) (hc : c < 10000) (hg : good c) (ha : ∀ x, zs_or (zs_dig M n x) n &&& all = zs_or (zs_dig M n x) n) (hr : ∀ i, i < n → S 375 i = nI (zs_dig M n c i)) (ho : ∀ q, q < 6 → S 376 q = nI (zs_cnt (zs_dig M n c) q n)) (hA : zr_A S good (fun x => zs_or (zs_dig M n x) n) all M n c) : zz_wp (m_Seen_endRow S) (fun _ S1 => zr_f S S1 n ∧ zr_A S1 good (fun x => zs_or (zs_dig M n x) n) all M n (c + 1)) := by
  obtain ⟨a1, a2, a3⟩ := hA
  have hle := zs_sn_le (good := good) (mk := fun x => zs_or (zs_dig M n x) n) (all := all) c
  have z : ∀ x : Int32, x ||| 0 = x := fun x => Int32.or_zero
  unfold m_Seen_endRow
  refine zz_loopX (ap := fun (k : zt_2) (q : Nat) => k (zs_b6 (fun p => decide (0 < zs_cnt (zs_dig M n c) p n)) q) (nI q) S) (fun q => 6 - q) (fun q => q ≤ 6) ?_ sy_F 0 (zz_F (by omega)) (by omega)
  intro k q hq hk
  unfold m_Seen_endRow_B4
  rw [zz_i]
  refine ⟨fun hle6 => ?_, fun hn6 => ?_⟩
  · skip
    have hq6 : q = 6 := by
      rcases Nat.lt_or_ge q 6 with x | x
      · exact absurd hle6 (by rw [show (6 : Int32) = nI 6 from rfl]; exact nI_ge x (by omega))
      · omega
    subst hq6
    rw [← zs_or_b6 (fun i _ => Nat.lt_of_lt_of_le (zs_dig_lt h0) h6)]
    generalize hw : zs_or (zs_dig M n c) n = w
    unfold m_Seen_endRow_J57
    rw [zz_i, a1]
    refine ⟨fun h => ?_, fun h => ?_⟩
    · have hz : (zs_sn good (fun x => zs_or (zs_dig M n x) n) all c).1 = 0 := by
        rcases Nat.eq_zero_or_pos (zs_sn good (fun x => zs_or (zs_dig M n x) n) all c).1 with x | x
        · exact x
        · exact absurd h (nI_ne0 x (by omega))
      obtain ⟨z1, z2⟩ := zs_sn_0 c hz
      simp only [zz_b, zz_some]
      refine ⟨⟨fun i i1 i2 i3 _ => ?_, fun j j1 j2 => ?_, fun j _ => ?_⟩, ?_, fun _ => ⟨?_, c, by omega, hg, z2, fun i hi => ?_⟩, fun x => ?_⟩
      · funext j; simp only [zz_up, zz_cp, i1, i3, if_false]
      · simp [zz_up, zz_cp, j1, j2]
      · simp [zz_up, zz_cp]
      · rw [zs_sn_y hg]
        simp only [zz_up, zz_cp]
        simp [hz, a1]
        rfl
      · rw [zs_sn_y hg, z1]
        simp only [zz_up, zz_cp]
        simp
        rw [hw, Int32.and_comm, ← hw, ha c]
      · simp only [zz_up, zz_cp]
        have e5 : (5 : Int32).toNatClampNeg = 5 := rfl
        have e0 : (0 : Int32).toNatClampNeg = 0 := rfl
        simp [e5, e0, show i < 5 by omega, hr i hi]
      · rw [zs_sn_y hg] at x; exact absurd x (by simp)
    · have hp : 0 < (zs_sn good (fun x => zs_or (zs_dig M n x) n) all c).1 := by
        rcases Nat.eq_zero_or_pos (zs_sn good (fun x => zs_or (zs_dig M n x) n) all c).1 with x | x
        · rw [x] at h; exact absurd rfl h
        · exact x
      obtain ⟨b1, c0, b2, b3, b4, b5⟩ := a2 hp
      simp only [zz_b, zz_some]
      refine ⟨⟨fun i i1 i2 i3 _ => ?_, fun j j1 j2 => ?_, fun j _ => ?_⟩, ?_, fun _ => ⟨?_, c0, by omega, b3, b4, fun i hi => ?_⟩, fun x => ?_⟩
      · funext j; simp only [zz_up, i1, if_false]
      · simp [zz_up, j1, j2]
      · simp [zz_up]
      · rw [zs_sn_y hg]
        simp only [zz_up]
        simp [a1]
        rw [nI_1]
      · rw [zs_sn_y hg]
        simp only [zz_up]
        simp [b1, hw]
      · simp [zz_up, b5 i hi]
      · rw [zs_sn_y hg] at x; exact absurd x (by simp)
  · have hq2 : q < 6 := nI_lt_of (n := 6) hn6 (by omega) (by omega)
    have hk := hk (q + 1) (by omega) (by omega)
    rw [zs_b6] at hk
    rw [zz_g, zz_i, zz_cl (by omega), ho q hq2]
    refine ⟨zz_in (by omega) (by omega), fun h => ?_, fun h => ?_⟩
    · have : ¬ 0 < zs_cnt (zs_dig M n c) q n := fun x => absurd h (nI_nle x (by have := zs_cnt_le (dg := zs_dig M n c) (p := q) n; omega))
      rw [zz_b, nI_1]
      rw [show zs_bit (decide (0 < zs_cnt (zs_dig M n c) q n)) q = 0 by simp [this, zs_bit], z] at hk
      exact hk
    · have : 0 < zs_cnt (zs_dig M n c) q n := by
        rcases Nat.eq_zero_or_pos (zs_cnt (zs_dig M n c) q n) with x | x
        · rw [x] at h; exact absurd (by decide) h
        · exact x
      rw [zz_b, zz_b, nI_1]
      rw [show zs_bit (decide (0 < zs_cnt (zs_dig M n c) q n)) q = 1 <<< (nI q &&& 31) by simp [this, zs_bit]] at hk
      exact hk
