/-! ===== codes and their prefixes ===== -/
theorem zs_dig_lt {M n c i : Nat} (h : 0 < M) : zs_dig M n c i < M := Nat.mod_lt _ h
theorem zs_div_in {a p c : Nat} (h1 : p * a ≤ c) (h2 : c < (p + 1) * a) : c / a = p := by
  have ha : 0 < a := by
    rcases Nat.eq_zero_or_pos a with q | q
    · subst q; simp at h2
    · exact q
  exact Nat.div_eq_of_lt_le h1 h2
theorem zs_dig_pre {M k d n p c i : Nat} (hn : n = d + k) (h1 : p * M ^ k ≤ c) (h2 : c < (p + 1) * M ^ k) (hi : i < d) : zs_dig M n c i = zs_dig M d p i := by
  unfold zs_dig
  rw [show n - 1 - i = k + (d - 1 - i) by omega, Nat.pow_add, ← Nat.div_div_eq_div_mul, zs_div_in h1 h2]
theorem zs_dig_last {M d p j : Nat} (hj : j < M) : zs_dig M (d + 1) (p * M + j) d = j := by
  unfold zs_dig
  rw [show d + 1 - 1 - d = 0 by omega, Nat.pow_zero, Nat.div_one, Nat.add_comm, Nat.add_mul_mod_self_right, Nat.mod_eq_of_lt hj]
theorem zs_dig_ch {M d p j i : Nat} (hj : j < M) (hi : i < d) : zs_dig M (d + 1) (p * M + j) i = zs_dig M d p i := by
  refine zs_dig_pre (k := 1) rfl ?_ ?_ hi
  · rw [Nat.pow_one]; omega
  · rw [Nat.pow_one, Nat.add_mul]; omega
theorem zs_run_c {e : Nat → Nat → Int32} {wc M d : Nat} {v : Nat → Int32} {dg dg2 : Nat → Nat} (h : ∀ i, i < d → dg i = dg2 i) : ∀ i, i ≤ d → zs_run e wc M v dg i = zs_run e wc M v dg2 i := by
  intro i
  induction i with
  | zero => intro _; rfl
  | succ i ih => intro hi; rw [zs_run, zs_run, ih (by omega), h i (by omega)]
theorem zs_cnt_c {d p : Nat} {dg dg2 : Nat → Nat} (h : ∀ i, i < d → dg i = dg2 i) : ∀ i, i ≤ d → zs_cnt dg p i = zs_cnt dg2 p i := by
  intro i
  induction i with
  | zero => intro _; rfl
  | succ i ih => intro hi; rw [zs_cnt, zs_cnt, ih (by omega), h i (by omega)]
theorem zs_cnt_mono {dg : Nat → Nat} {p i : Nat} : ∀ k, zs_cnt dg p i ≤ zs_cnt dg p (i + k) := by
  intro k
  induction k with
  | zero => exact Nat.le_refl _
  | succ k ih => rw [← Nat.add_assoc, zs_cnt]; omega
theorem zs_run_ch {e : Nat → Nat → Int32} {wc M d p j : Nat} {v : Nat → Int32} (hj : j < M) : zs_run e wc M v (zs_dig M (d + 1) (p * M + j)) (d + 1) = zs_step e wc M (zs_run e wc M v (zs_dig M d p) d) j := by
  rw [zs_run, zs_dig_last hj, zs_run_c (d := d) (dg2 := zs_dig M d p) (fun i hi => zs_dig_ch hj hi) d (Nat.le_refl _)]
theorem zs_cnt_ch {M d p j q : Nat} (hj : j < M) : zs_cnt (zs_dig M (d + 1) (p * M + j)) q (d + 1) = zs_cnt (zs_dig M d p) q d + (if j = q then 1 else 0) := by
  rw [zs_cnt, zs_dig_last hj, zs_cnt_c (d := d) (dg2 := zs_dig M d p) (fun i hi => zs_dig_ch hj hi) d (Nat.le_refl _)]
/-- a code's run over its prefix's -/
theorem zs_run_pre {e : Nat → Nat → Int32} {wc M k d n p c : Nat} {v : Nat → Int32} (hn : n = d + k) (h1 : p * M ^ k ≤ c) (h2 : c < (p + 1) * M ^ k) {i : Nat} (hi : i ≤ d) : zs_run e wc M v (zs_dig M n c) i = zs_run e wc M v (zs_dig M d p) i :=
  zs_run_c (d := d) (fun _ hx => zs_dig_pre hn h1 h2 hx) i hi
theorem zs_cnt_pre {M k d n p c q : Nat} (hn : n = d + k) (h1 : p * M ^ k ≤ c) (h2 : c < (p + 1) * M ^ k) {i : Nat} (hi : i ≤ d) : zs_cnt (zs_dig M n c) q i = zs_cnt (zs_dig M d p) q i :=
  zs_cnt_c (d := d) (fun _ hx => zs_dig_pre hn h1 h2 hx) i hi
/-! the children of a prefix lie side by side -/
theorem zs_ch0 {M k p : Nat} : (p * M + 0) * M ^ k = p * M ^ (k + 1) := by
  rw [Nat.add_zero, Nat.pow_succ, Nat.mul_assoc, Nat.mul_comm M]
theorem zs_chM {M k p : Nat} : (p * M + M) * M ^ k = (p + 1) * M ^ (k + 1) := by
  rw [Nat.pow_succ, Nat.mul_comm (M ^ k) M, ← Nat.mul_assoc, Nat.add_mul p 1 M, Nat.one_mul]
theorem zs_chs {M k p j : Nat} : (p * M + j) * M ^ k ≤ (p * M + (j + 1)) * M ^ k := Nat.mul_le_mul_right _ (by omega)
theorem zs_chp {M k p j : Nat} (h : 0 < M) : (p * M + j) * M ^ k < (p * M + (j + 1)) * M ^ k := Nat.mul_lt_mul_of_pos_right (by omega) (Nat.pow_pos h)
/-! ===== who is in a row, as a set ===== -/
def zs_or (dg : Nat → Nat) : Nat → Int32
  | 0 => 0
  | n + 1 => zs_or dg n ||| (1 <<< (nI (dg n) &&& 31))
def zs_bit (b : Bool) (p : Nat) : Int32 := if b then 1 <<< (nI p &&& 31) else 0
theorem zs_or6 : ∀ b0 b1 b2 b3 b4 b5 : Bool, ∀ q, q < 6 → (zs_bit b0 0 ||| zs_bit b1 1 ||| zs_bit b2 2 ||| zs_bit b3 3 ||| zs_bit b4 4 ||| zs_bit b5 5) ||| (1 <<< (nI q &&& 31)) = (zs_bit (b0 || q == 0) 0 ||| zs_bit (b1 || q == 1) 1 ||| zs_bit (b2 || q == 2) 2 ||| zs_bit (b3 || q == 3) 3 ||| zs_bit (b4 || q == 4) 4 ||| zs_bit (b5 || q == 5) 5) := by decide +kernel
def zs_b6 (f : Nat → Bool) : Nat → Int32
  | 0 => 0
  | n + 1 => zs_b6 f n ||| zs_bit (f n) n
theorem zs_or_b6 {dg : Nat → Nat} {n : Nat} (hd : ∀ i, i < n → dg i < 6) : zs_or dg n = zs_b6 (fun p => decide (0 < zs_cnt dg p n)) 6 := by
  have z : ∀ x : Int32, 0 ||| x = x := fun x => Int32.zero_or
  induction n with
  | zero => simp [zs_or, zs_b6, zs_bit, zs_cnt]
  | succ n ih =>
    rw [zs_or, ih (fun i hi => hd i (by omega))]
    simp only [zs_b6, z]
    rw [zs_or6 _ _ _ _ _ _ (dg n) (hd n (by omega))]
    have e : ∀ p, (decide (0 < zs_cnt dg p n) || dg n == p) = decide (0 < zs_cnt dg p (n + 1)) := fun p => by
      rw [zs_cnt]
      by_cases q : dg n = p
      · simp [q]
      · simp [q]
    rw [e 0, e 1, e 2, e 3, e 4, e 5]
def zs_allM (M : Nat) : Int32 := ((1 : Int32) <<< (nI M &&& 31)) - 1
def zs_alS (M x j : Nat) : Bool := (!decide (nI x &&& zs_allM M = nI x)) || (decide ((nI x ||| ((1 : Int32) <<< (nI j &&& 31))) &&& zs_allM M = (nI x ||| ((1 : Int32) <<< (nI j &&& 31)))) && decide ((nI x ||| ((1 : Int32) <<< (nI j &&& 31))) = nI (x ||| 1 <<< j)) && decide ((x ||| 1 <<< j) < 64))
theorem zs_all_s0 : ∀ M, M < 7 → ∀ j, j < M → ∀ x, x < 64 → zs_alS M x j = true := by decide +kernel
theorem zs_all_s {M x j : Nat} (hM : M < 7) (hx : x < 64) (hj : j < M) (h : nI x &&& zs_allM M = nI x) : ((nI x ||| ((1 : Int32) <<< (nI j &&& 31))) &&& zs_allM M = (nI x ||| ((1 : Int32) <<< (nI j &&& 31)))) ∧ (nI x ||| ((1 : Int32) <<< (nI j &&& 31))) = nI (x ||| 1 <<< j) ∧ (x ||| 1 <<< j) < 64 := by
  have := zs_all_s0 M hM j hj x hx
  unfold zs_alS at this
  simpa [h, and_assoc] using this
theorem zs_or_all {dg : Nat → Nat} {n M : Nat} (h6 : M ≤ 6) (hd : ∀ i, i < n → dg i < M) : ∃ x, x < 64 ∧ zs_or dg n = nI x ∧ nI x &&& zs_allM M = nI x := by
  induction n with
  | zero =>
    refine ⟨0, by omega, rfl, ?_⟩
    have : ∀ M, M < 7 → nI 0 &&& zs_allM M = nI 0 := by decide +kernel
    exact this M (by omega)
  | succ n ih =>
    obtain ⟨x, h1, h2, h3⟩ := ih (fun i hi => hd i (by omega))
    obtain ⟨a, b, c⟩ := zs_all_s (by omega) h1 (hd n (by omega)) h3
    refine ⟨x ||| 1 <<< dg n, c, ?_, ?_⟩
    · rw [zs_or, h2, b]
    · rw [← b]; exact a
theorem zs_and_self (x : Int32) : x &&& x = x := Int32.and_self
