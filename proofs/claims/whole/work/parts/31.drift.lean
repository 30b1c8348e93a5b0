/-! ===== draws ===== -/
def zs_seed (s : Nat) : Nat := (s * 1103515245 + 12345) % 2147483648
theorem zs_seed_lt (s : Nat) : zs_seed s < 2147483648 := Nat.mod_lt _ (by omega)
theorem zl_and (a b : Nat) : lN a &&& lN b = lN (a &&& b) := by
  apply Int64.toBitVec_inj.mp
  show (BitVec.ofNat 64 a) &&& (BitVec.ofNat 64 b) = BitVec.ofNat 64 (a &&& b)
  rw [BitVec.ofNat_and]
theorem zl_C {s : Nat} (h : s < 2147483648) : Int64.toInt32 (((Int32.toInt64 (nI s)) * 1103515245 + 12345) &&& 2147483647) = nI (zs_seed s) := by
  rw [nI_l h, show (1103515245 : Int64) = lN 1103515245 from rfl, show (12345 : Int64) = lN 12345 from rfl, show (2147483647 : Int64) = lN (2 ^ 31 - 1) from rfl, lN_mul, lN_add, zl_and, Nat.and_two_pow_sub_one_eq_mod, lN_i]
  rfl
theorem zl_M {s : Nat} (h : s < 2147483648) : Int64.toInt32 (((Int32.toInt64 (nI s)) * 1103515245 + 12345) - ((Int32.toInt64 (nI s)) * 1103515245 + 12345) / 2147483648 * 2147483648) = nI (zs_seed s) := by
  rw [nI_l h, show (1103515245 : Int64) = lN 1103515245 from rfl, show (12345 : Int64) = lN 12345 from rfl, show (2147483648 : Int64) = lN 2147483648 from rfl, lN_mul, lN_add, pk_lRem (by omega) (by omega) (by omega), lN_i]
  rfl
def zs_pick (s n : Nat) : Nat := s / 65536 % n
theorem zs_pick_lt {s n : Nat} (h : 0 < n) : zs_pick s n < n := Nat.mod_lt _ h
theorem zl_pick {s n : Nat} (h : s < 2147483648) (h0 : 0 < n) (hn : n < 2147483648) : (nI s / 65536 - nI s / 65536 / nI n * nI n : Int32) = nI (zs_pick s n) := by
  rw [show (65536 : Int32) = nI 65536 from rfl, pk_div h (by omega) (by omega), pk_rem (by omega) h0 hn]
  rfl
theorem zp_draw {S : sy_St} {s n : Nat} (hs : S 0 15 = nI s) (h : s < 2147483648) (h0 : 0 < n) (hn : n < 2147483648) : m_Top_draw (nI n) S = some (nI (zs_pick (zs_seed s) n), sy_up S 0 15 (nI (zs_seed s))) := by
  unfold m_Top_draw
  rw [hs, zl_C h]
  simp only [sy_b, zz_upo, if_true]
  rw [if_pos (by rw [show (1 : Int32) = nI 1 from rfl]; exact nI_le (by omega) (by omega))]
  unfold sy_g
  rw [if_pos (nI_ne0 h0 hn), zl_pick (zs_seed_lt s) h0 hn]
theorem zq_draw {S : sy_St} {s n : Nat} (hs : S 400 6 = nI s) (h : s < 2147483648) (h0 : 0 < n) (hn : n < 2147483648) : m_Model_draw (nI n) S = some (nI (zs_pick (zs_seed s) n), sy_up S 400 6 (nI (zs_seed s))) := by
  unfold m_Model_draw
  simp only [show (6 : Int32).toNatClampNeg = 6 from rfl]
  rw [hs, zl_M h]
  simp only [sy_b, zz_upo, if_true]
  unfold sy_g
  rw [if_pos (nI_ne0 h0 hn), zl_pick (zs_seed_lt s) h0 hn]
/-- who passes by, and what comes of it -/
noncomputable def zs_if {α : Type} (c : Prop) (a b : α) : α := @ite α c (Classical.propDecidable c) a b
theorem zs_if_t {α : Type} {c : Prop} {a b : α} (h : c) : zs_if c a b = a := if_pos h
theorem zs_if_f {α : Type} {c : Prop} {a b : α} (h : ¬ c) : zs_if c a b = b := if_neg h
noncomputable def zs_by (e : Nat → Nat → Int32) (M : Nat) (v : Nat → Int32) (s : Nat) : (Nat → Int32) × Nat :=
  zs_if (v 4 = nI (zs_pick (zs_seed s) M) ∨ v 5 = nI (zs_pick (zs_seed s) M)) (v, zs_seed s)
  (zs_if (zs_son e v (zs_pick (zs_seed s) M)) (zs_hand v (zs_pick (zs_seed s) M), zs_seed s)
  (zs_if (zs_falls e v (zs_pick (zs_seed s) M) (zs_pick (zs_seed (zs_seed s)) 3)) (zs_trick v (zs_pick (zs_seed s) M) (zs_pick (zs_seed (zs_seed s)) 3), zs_seed (zs_seed s))
  (v, zs_seed (zs_seed s))))
theorem zs_by_W {e : Nat → Nat → Int32} {M c s : Nat} {v : Nat → Int32} (hM : M ≤ 6) (h0 : 0 < M) (h : zv_W v M c) : zv_W (zs_by e M v s).1 M c := by
  unfold zs_by
  by_cases a : v 4 = nI (zs_pick (zs_seed s) M) ∨ v 5 = nI (zs_pick (zs_seed s) M)
  · rw [zs_if_t a]; exact h
  · rw [zs_if_f a]
    by_cases b : zs_son e v (zs_pick (zs_seed s) M)
    · rw [zs_if_t b]; exact zs_hand_W h (zs_pick_lt h0)
    · rw [zs_if_f b]
      by_cases d : zs_falls e v (zs_pick (zs_seed s) M) (zs_pick (zs_seed (zs_seed s)) 3)
      · rw [zs_if_t d]; exact zs_trick_W hM h (zs_pick_lt h0) (zs_pick_lt (by omega))
      · rw [zs_if_f d]; exact h
theorem zs_by_lt {e : Nat → Nat → Int32} {M s : Nat} {v : Nat → Int32} : (zs_by e M v s).2 < 2147483648 := by
  unfold zs_by
  by_cases a : v 4 = nI (zs_pick (zs_seed s) M) ∨ v 5 = nI (zs_pick (zs_seed s) M)
  · rw [zs_if_t a]; exact zs_seed_lt _
  · rw [zs_if_f a]
    by_cases b : zs_son e v (zs_pick (zs_seed s) M)
    · rw [zs_if_t b]; exact zs_seed_lt _
    · rw [zs_if_f b]
      by_cases d : zs_falls e v (zs_pick (zs_seed s) M) (zs_pick (zs_seed (zs_seed s)) 3)
      · rw [zs_if_t d]; exact zs_seed_lt _
      · rw [zs_if_f d]; exact zs_seed_lt _
def zd_by (i j : Nat) : Prop := (45 ≤ i ∧ i ≤ 49) ∨ (i = 0 ∧ j = 15)
theorem zp_passByDraw {S : sy_St} {e : Nat → Nat → Int32} {wc M c s : Nat} {v : Nat → Int32} (he : ze_C S e wc M) (hw : ze_W e wc M) (h0 : 0 < M) (hv : zv_K S 45 = v) (hW : zv_W v M c) (hs : S 0 15 = nI s) (h : s < 2147483648) : zz_wp (m_Top_passByDraw S) (fun _ S1 => (∀ i j, ¬ zd_by i j → S1 i j = S i j) ∧ zv_K S1 45 = (zs_by e M v s).1 ∧ S1 0 15 = nI (zs_by e M v s).2) := by
  have hM := hw.2.1
  have hj := zs_pick_lt (s := zs_seed s) h0
  unfold m_Top_passByDraw
  rw [he.2.1, zz_c, zp_draw hs h h0 (by omega), zz_some, zz_c]
  unfold zs_by
  generalize zs_pick (zs_seed s) M = j at hj ⊢
  have r0 : ∀ i, i ≠ 0 → sy_up S 0 15 (nI (zs_seed s)) i = S i := fun i hi => zz_up1 hi
  have k0 : zv_K (sy_up S 0 15 (nI (zs_seed s))) 45 = v := by rw [zvK_a (by omega), hv]
  have hc0 : ze_C (sy_up S 0 15 (nI (zs_seed s))) e wc M := zd_eC (fun x b1 b2 => r0 x (by omega)) he
  rw [zp_isHolding (by omega), zz_some, zz_i, r0 45 (by omega), show S 45 9 = v 4 by rw [← hv]; rfl, show S 45 10 = v 5 by rw [← hv]; rfl]
  have fr0 : ∀ x y, ¬ zd_by x y → sy_up S 0 15 (nI (zs_seed s)) x y = S x y := fun x y d => by
    unfold zd_by at d
    rw [zz_up]
    by_cases q : x = 0
    · subst q; rw [if_pos rfl, if_neg (by omega)]
    · rw [if_neg q]
  by_cases a : v 4 = nI j ∨ v 5 = nI j
  · rw [if_pos a, zs_if_t a]
    refine ⟨fun q => absurd q (by decide), fun _ => ?_⟩
    rw [zz_some]
    exact ⟨fr0, k0, by rw [zz_upo, if_pos rfl]⟩
  · rw [if_neg a, zs_if_f a]
    refine ⟨fun _ => ?_, fun q => absurd rfl q⟩
    obtain ⟨a1, a2⟩ := zp_isFatherHolding (k := 45) (c := c) hc0 hw hj (by rw [k0]; exact hW)
    rw [k0] at a1 a2
    rw [zz_c]
    by_cases b : zs_son e v j
    · rw [a1 b, zs_if_t b, zz_some, zz_i]
      refine ⟨fun q => absurd q (by decide), fun _ => ?_⟩
      rw [zz_c]
      refine zz_mono (zp_handTo (j := j)) (fun r S1 ⟨f1, k1⟩ => ?_)
      rw [zz_some]
      refine ⟨fun x y d => ?_, by rw [k1, k0], ?_⟩
      · rw [f1 x (by unfold zd_by at d; omega), fr0 x y d]
      · rw [f1 0 (by omega), zz_upo, if_pos rfl]
    · rw [a2 b, zs_if_f b, zz_some, zz_i]
      refine ⟨fun _ => ?_, fun q => absurd rfl q⟩
      rw [zz_c, show (3 : Int32) = nI 3 from rfl, zp_draw (s := zs_seed s) (by rw [zz_upo, if_pos rfl]) (zs_seed_lt s) (by omega) (by omega), zz_some, zz_c]
      have hx := zs_pick_lt (s := zs_seed (zs_seed s)) (n := 3) (by omega)
      generalize zs_pick (zs_seed (zs_seed s)) 3 = x at hx ⊢
      have k1 : zv_K (sy_up (sy_up S 0 15 (nI (zs_seed s))) 0 15 (nI (zs_seed (zs_seed s)))) 45 = v := by rw [zvK_a (by omega), k0]
      have hc1 : ze_C (sy_up (sy_up S 0 15 (nI (zs_seed s))) 0 15 (nI (zs_seed (zs_seed s)))) e wc M := zd_eC (fun x b1 b2 => by rw [zz_up1 (by omega)]) hc0
      have fr1 : ∀ x y, ¬ zd_by x y → sy_up (sy_up S 0 15 (nI (zs_seed s))) 0 15 (nI (zs_seed (zs_seed s))) x y = S x y := fun x y d => by
        rw [← fr0 x y d]
        unfold zd_by at d
        rw [zz_up]
        by_cases q : x = 0
        · subst q; rw [if_pos rfl, if_neg (by omega)]
        · rw [if_neg q]
      obtain ⟨b1, b2⟩ := zp_trick (k := 45) hc1 hw hj hx
      rw [k1] at b1 b2
      by_cases d : zs_falls e v j x
      · rw [zs_if_t d]
        refine zz_mono (b1 d) (fun r S2 ⟨_, f2, k2⟩ => ?_)
        rw [zz_some]
        refine ⟨fun y z dd => ?_, k2, ?_⟩
        · rw [f2 y (by unfold zd_by at dd; omega), fr1 y z dd]
        · rw [f2 0 (by omega), zz_upo, if_pos rfl]
      · rw [zs_if_f d, b2 d, zz_some, zz_some]
        exact ⟨fr1, k1, by rw [zz_upo, if_pos rfl]⟩
