/-- force of who holds, or none -/
def zs_forceI (e : Nat → Nat → Int32) (v : Nat → Int32) (x : Int32) : Int32 := if x = -1 then 0 else zs_force e v x.toNatClampNeg
theorem zp_forceOfI {S : sy_St} {e : Nat → Nat → Int32} {wc M k : Nat} {x : Int32} (he : ze_C S e wc M) (hw : ze_W e wc M) (h : x = -1 ∨ ∃ j, j < M ∧ x = nI j) : m_Sky_forceOf k x S = some (zs_forceI e (zv_K S k) x, S) := by
  rcases h with rfl | ⟨j, hj, rfl⟩
  · rw [zp_forceOf_no]; rfl
  · have h6 : j < 6 := by have := hw.2.1; omega
    rw [zp_forceOf he hw hj]
    unfold zs_forceI
    rw [zz_cl (by omega), if_neg]
    intro q
    have := nI_pos' (n := j) (by omega)
    rw [q] at this
    exact absurd this (by decide)
theorem zp_forceHeld {S : sy_St} {e : Nat → Nat → Int32} {wc M k c : Nat} (he : ze_C S e wc M) (hw : ze_W e wc M) (hv : zv_W (zv_K S k) M c) : m_Sky_forceHeld k S = some (zs_forceI e (zv_K S k) (zv_K S k 4) + zs_forceI e (zv_K S k) (zv_K S k 5), S) := by
  obtain ⟨-, -, h4, h5, -, -⟩ := hv
  unfold m_Sky_forceHeld
  have h4' : S k 9 = -1 ∨ ∃ j, j < M ∧ S k 9 = nI j := by
    rcases h4 with ⟨-, h⟩ | ⟨j, hj, h⟩
    · exact Or.inl h
    · exact Or.inr ⟨j, hj, h⟩
  rw [zp_forceOfI he hw h4']
  simp only [sy_c]
  have h5' : S k 10 = -1 ∨ ∃ j, j < M ∧ S k 10 = nI j := h5
  rw [zp_forceOfI he hw h5']
  rfl
/-- the weight of the hour -/
def zs_weight (e : Nat → Nat → Int32) (wc : Nat) (v : Nat → Int32) : Int32 := if wc = 0 then 0 else e 1 ((v 0).toNatClampNeg % wc)
theorem zp_weightAt {S : sy_St} {e : Nat → Nat → Int32} {wc M t : Nat} (he : ze_C S e wc M) (hw : ze_W e wc M) (v : Nat → Int32) (ht : t < 2147483648) (hv : v 0 = nI t) : m_Edge_weightAt 1 (v 0) S = some (zs_weight e wc v, S) := by
  obtain ⟨h7, -, h1, -, -⟩ := he
  have h12 := hw.1
  unfold m_Edge_weightAt zs_weight
  rw [hv, h7]
  by_cases h0 : wc = 0
  · subst h0
    rw [if_pos (by decide), if_pos rfl]
  · rw [if_neg (by rw [show (1 : Int32) = nI 1 from rfl]; exact nI_nlt (show 1 ≤ wc by omega) (by omega)), if_pos (nI_pos' (by omega)), if_neg h0, zz_cl (by omega)]
    have hm : t % wc < wc := Nat.mod_lt _ (by omega)
    simp only [sy_b, sy_g]
    rw [if_pos (nI_ne0 (by omega) (by omega)), pk_rem (by omega) (by omega) (by omega), if_pos (zz_in (by omega) (by omega)), zz_cl (by omega), h1 _ hm]
/-- LOW behind an hour -/
def zs_low (e : Nat → Nat → Int32) (wc : Nat) (v : Nat → Int32) (h b less : Int32) : Int32 :=
  let w := sy_max 0 (zs_weight e wc v - less)
  let f := zs_forceI e v h + zs_forceI e v b
  let l := if f < w then sy_min 99 (v 1 + w - f) else if w < f then sy_max 0 (v 1 - 1) else v 1
  if b = -1 ∧ ¬ h = -1 ∧ e 2 (5 * h.toNatClampNeg) = 1 then sy_max 2 l else l
theorem zp_lowBehind {S : sy_St} {e : Nat → Nat → Int32} {wc M k c : Nat} {h b less : Int32} (he : ze_C S e wc M) (hw : ze_W e wc M) (hv : ∃ t, t ≤ c ∧ zv_K S k 0 = nI t) (hc : c < 2147483648) (hh : h = -1 ∨ ∃ j, j < M ∧ h = nI j) (hb : b = -1 ∨ ∃ j, j < M ∧ b = nI j) : m_Sky_lowBehind k h b less S = some (zs_low e wc (zv_K S k) h b less, S) := by
  obtain ⟨t, ht, hv0⟩ := hv
  unfold m_Sky_lowBehind
  rw [show S k 5 = zv_K S k 0 from rfl, zp_weightAt he hw (zv_K S k) (t := t) (by omega) hv0]
  simp only [sy_c, sy_b]
  rw [zp_forceOfI he hw hh]
  simp only []
  rw [zp_forceOfI he hw hb]
  simp only [m_Sky_lowBehind_J84, m_Sky_lowBehind_J117]
  unfold zs_low
  rw [zvK_1]
  generalize zs_weight e wc (zv_K S k) = w
  generalize zs_forceI e (zv_K S k) h = f1
  generalize zs_forceI e (zv_K S k) b = f2
  generalize S k 6 = l0
  rcases hh with rfl | ⟨j, hj, rfl⟩
  · rw [zp_isPerson_no]
    simp only [sy_c]
    grind
  · have h6 : j < 6 := by have := hw.2.1; omega
    rw [zp_isPerson he.2.1 hw.2.1 hj]
    have hin : sy_in (nI j) 6 := zz_in h6 (by omega)
    have hne : ¬ nI j = -1 := fun q => by
      have := nI_pos' (n := j) (by omega)
      rw [q] at this
      exact absurd this (by decide)
    simp only [sy_c, sy_g, if_pos hin, zz_cl (show j < 2147483648 by omega), (he.2.2.2.1 j hj).1]
    grind
/-! the views behind a store -/
theorem zvK_up_t {S : sy_St} {k i : Nat} {x : Int32} (h : i < 6) : zv_K (sy_up S (k + 1) i x) k = upd (zv_K S k) (7 + i) x := by
  funext j; simp only [zv_K, zz_up, upd]; grind (splits := 30)
theorem zvK_up_h {S : sy_St} {k i : Nat} {x : Int32} (h : i < 6) : zv_K (sy_up S (k + 2) i x) k = upd (zv_K S k) (13 + i) x := by
  funext j; simp only [zv_K, zz_up, upd]; grind (splits := 30)
theorem zvK_up_u {S : sy_St} {k i : Nat} {x : Int32} (h : i < 6) : zv_K (sy_up S (k + 3) i x) k = upd (zv_K S k) (19 + i) x := by
  funext j; simp only [zv_K, zz_up, upd]; grind (splits := 30)
theorem zvK_up_f {S : sy_St} {k i : Nat} {x : Int32} (h : i < 6) : zv_K (sy_up S (k + 4) i x) k = upd (zv_K S k) (25 + i) x := by
  funext j; simp only [zv_K, zz_up, upd]; grind (splits := 30)
theorem zvK_up_s {S : sy_St} {k i : Nat} {x : Int32} (h : i < 6) : zv_K (sy_up S k (5 + i) x) k = upd (zv_K S k) i x := by
  funext j; simp only [zv_K, zz_up, upd]; grind (splits := 30)
theorem zvM_up {S : sy_St} {a o j : Nat} {x : Int32} (h : j < 31) (h6 : j ≠ 6) : zv_M (sy_up S a (o + j) x) a o = upd (zv_M S a o) j x := by
  funext i; simp only [zv_M, zz_up, upd]; grind (splits := 30)
/-! ===== an hour's end ===== -/
def zs_frt (e : Nat → Nat → Int32) (v : Nat → Int32) : Nat → Int32
  | 0 => v 3
  | n + 1 => if (v 4 = nI n ∨ v 5 = nI n) ∧ e 2 (5 * n) = 4 ∧ 0 < zs_frt e v n then zs_frt e v n - 1 else zs_frt e v n
def zs_part (e : Nat → Nat → Int32) (v : Nat → Int32) (low : Int32) (n : Nat) : Nat → Int32 := fun j =>
  if j = 1 then low else if j = 2 then sy_min 999999999 (v 2 + low) else if j = 3 then zs_frt e v n else if j < 7 then v j
  else if j < 13 then (if j - 7 < n then (if v 4 = nI (j - 7) ∨ v 5 = nI (j - 7) then sy_min 20 (v j + 1) else sy_max 0 (v j - 1)) else v j)
  else if j < 19 then (if j - 13 < n ∧ (v 4 = nI (j - 13) ∨ v 5 = nI (j - 13)) then v j + 1 else v j)
  else if j < 25 then (if j - 19 < n then (if v 4 = nI (j - 19) ∨ v 5 = nI (j - 19) then v j + 1 else 0) else v j)
  else v j
def zs_end (e : Nat → Nat → Int32) (v : Nat → Int32) (low : Int32) (M : Nat) : Nat → Int32 := upd (zs_part e v low M) 0 (v 0 + 1)
theorem zs_part_0 {e : Nat → Nat → Int32} {v : Nat → Int32} {low : Int32} : zs_part e v low 0 = upd (upd v 1 low) 2 (sy_min 999999999 (v 2 + low)) := by
  funext j
  simp only [zs_part, upd, zs_frt]
  grind (splits := 30)
theorem zs_part_y {e : Nat → Nat → Int32} {v : Nat → Int32} {low : Int32} {n : Nat} (hn : n < 6) (h : v 4 = nI n ∨ v 5 = nI n) : zs_part e v low (n + 1) = upd (upd (upd (upd (zs_part e v low n) (7 + n) (sy_min 20 (v (7 + n) + 1))) (13 + n) (v (13 + n) + 1)) (19 + n) (v (19 + n) + 1)) 3 (if e 2 (5 * n) = 4 ∧ 0 < zs_frt e v n then zs_frt e v n - 1 else zs_frt e v n) := by
  funext j
  simp only [zs_part, upd, zs_frt]
  by_cases a : j - 7 = n <;> by_cases b : j - 13 = n <;> by_cases c : j - 19 = n <;> grind (splits := 30)
theorem zs_part_n {e : Nat → Nat → Int32} {v : Nat → Int32} {low : Int32} {n : Nat} (hn : n < 6) (h : ¬ (v 4 = nI n ∨ v 5 = nI n)) : zs_part e v low (n + 1) = upd (upd (zs_part e v low n) (7 + n) (sy_max 0 (v (7 + n) - 1))) (19 + n) 0 := by
  funext j
  simp only [zs_part, upd, zs_frt]
  by_cases a : j - 7 = n <;> by_cases b : j - 13 = n <;> by_cases c : j - 19 = n <;> grind (splits := 30)
