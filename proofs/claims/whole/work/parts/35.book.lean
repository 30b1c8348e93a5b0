theorem zo_write (p w t : Int32) (ht : t = 0 ∨ t = 1) : zo_ok (m_Top_write p w t) (m_Model_write p w t) := by
  intro S e wc M c hc g
  have gs := zo_same g
  obtain ⟨g1, g2, g3, g4, g5, g6, g7, g8, ⟨n, hn, h2, h0, hl⟩⟩ := zi_all_m (show c ≤ c + 100 by omega) g
  obtain ⟨hw, hm, hcl⟩ := g1
  rcases zo_person p hw.2.1 with ⟨j, hj, rfl⟩ | h
  · have h6 := hw.2.1
    rcases zo_wrd w with ⟨x, hx, rfl⟩ | hx
    · by_cases hn2 : n < 20
      · obtain ⟨b, hb, rfl⟩ : ∃ b, b < 2 ∧ t = nI b := by
          rcases ht with rfl | rfl
          · exact ⟨0, by omega, rfl⟩
          · exact ⟨1, by omega, rfl⟩
        have hnar : vp_nar .boolean (nI b) = nI b := by
          rcases (show b = 0 ∨ b = 1 by omega) with rfl | rfl <;> rfl
        generalize hS1 : sy_up (sy_up (sy_up (sy_up S 385 n (nI j)) 386 n (nI x)) 387 n (nI b)) 384 3 (nI (n + 1)) = S1
        have fr1 : ∀ i, (i < 384 ∨ 387 < i) → S1 i = S i := fun i hi => by
          rw [← hS1, zz_up1 (by omega), zz_up1 (by omega), zz_up1 (by omega), zz_up1 (by omega)]
        have e1 : m_Top_write (nI j) (nI x) (nI b) S = some (nI (n + 1), S1) := by
          unfold m_Top_write m_Book_add
          rw [← hS1]
          have r1 : ∀ y, sy_up S 385 n y 384 3 = nI n := fun y => by rw [zz_up1 (by omega), h2]
          have r2 : ∀ y z, sy_up (sy_up S 385 n y) 386 n z 384 3 = nI n := fun y z => by rw [zz_up1 (by omega), r1]
          have r3 : ∀ y z u, sy_up (sy_up (sy_up S 385 n y) 386 n z) 387 n u 384 3 = nI n := fun y z u => by rw [zz_up1 (by omega), r2]
          have gi : sy_in (nI n) 20 = True := eq_true (zz_in hn2 (by omega))
          simp only [sy_c, sy_b, sy_g, zp_isPerson hcl.2.1 h6 hj, zp_isWord_t hx, h2, gi, if_true, zz_cl (show n < 2147483648 by omega), r1, r2, r3, hnar, nI_1, zz_upo]
          rw [if_neg (by decide), if_neg (by decide), show (20 : Int32) = nI 20 from rfl, if_pos (nI_lt hn2 (by omega)), if_neg (nI_ge hn2 (by omega))]
        have hm1 : ze_M S1 e wc M := zd_eM (fun x j d => by rw [fr1 x (by omega)]) hm
        generalize hS2 : sy_up (sy_up (sy_up (sy_up S1 406 (3 * n) (nI j)) 406 (3 * n + 1) (nI x)) 406 (3 * n + 2) (nI b)) 392 30 (nI (n + 1)) = S2
        have e2 : m_Model_write (nI j) (nI x) (nI b) S1 = some (nI (n + 1), S2) := by
          unfold m_Model_write m_Model_write_J82
          rw [← hS2]
          have r0 : S1 392 30 = nI n := by rw [fr1 392 (by omega), h0]
          have r1 : ∀ y, sy_up S1 406 (3 * n) y 392 30 = nI n := fun y => by rw [zz_up1 (by omega), r0]
          have r2 : ∀ y z, sy_up (sy_up S1 406 (3 * n) y) 406 (3 * n + 1) z 392 30 = nI n := fun y z => by rw [zz_up1 (by omega), r1]
          have r3 : ∀ y z u, sy_up (sy_up (sy_up S1 406 (3 * n) y) 406 (3 * n + 1) z) 406 (3 * n + 2) u 392 30 = nI n := fun y z u => by rw [zz_up1 (by omega), r2]
          have b3 : (3 * nI n : Int32) = nI (3 * n) := by rw [show (3 : Int32) = nI 3 from rfl, pk_mul]
          have b31 : (nI (3 * n) + 1 : Int32) = nI (3 * n + 1) := nI_1 _
          have b32 : (nI (3 * n) + 2 : Int32) = nI (3 * n + 2) := by rw [show (2 : Int32) = nI 2 from rfl, nI_add]
          have gi0 : sy_in (nI (3 * n)) 60 = True := eq_true (zz_in (by omega) (by omega))
          have gi1 : sy_in (nI (3 * n + 1)) 60 = True := eq_true (zz_in (by omega) (by omega))
          have gi2 : sy_in (nI (3 * n + 2)) 60 = True := eq_true (zz_in (by omega) (by omega))
          have c0 : (nI (3 * n)).toNatClampNeg = 3 * n := zz_cl (by omega)
          have c1 : (nI (3 * n + 1)).toNatClampNeg = 3 * n + 1 := zz_cl (by omega)
          have c2 : (nI (3 * n + 2)).toNatClampNeg = 3 * n + 2 := zz_cl (by omega)
          have ne : ¬ nI n = 20 := fun q => by have := (nI_eq (show n < 2 ^ 31 by omega) (show 20 < 2 ^ 31 by omega)).mp q; omega
          simp only [sy_c, sy_b, sy_g, zq_isOne_t hm1.2.1 h6 hj, zq_in3_t hx, r0, b3, gi0, gi1, gi2, c0, c1, c2, r1, r2, r3, b31, b32, if_true, zz_upo, if_neg ne, nI_1]
          rw [if_neg (by decide), if_neg (by decide)]
          rcases (show b = 0 ∨ b = 1 by omega) with rfl | rfl <;> rfl
        refine zo_two e1 e2 ⟨e, wc, M, ?_⟩
        have ch : ∀ D : Nat → Nat → Prop, (∀ i j, D i j → (i < 384 ∨ 387 < i) ∧ i ≠ 406 ∧ ¬ (i = 392 ∧ j = 30)) → zc_eq D S S2 := fun D hd i j d => by
          obtain ⟨a1, a2, a3⟩ := hd i j d
          rw [← hS2, zz_up]
          by_cases q : i = 392
          · subst q
            rw [if_pos rfl, if_neg (fun z => a3 ⟨rfl, z⟩), zz_up1 a2, zz_up1 a2, zz_up1 a2, fr1 392 a1]
          · rw [if_neg q, zz_up1 a2, zz_up1 a2, zz_up1 a2, fr1 i a1]
        refine ⟨zi_edge_f (ch _ ?_) ⟨hw, hm, hcl⟩, zi_now_f (ch _ ?_) g2, zi_seed_f (ch _ ?_) g3, zi_past_f (ch _ ?_) g4, zi_img_f (ch _ ?_) g5, zi_text_f (ch _ ?_) g6, zi_fault_f (ch _ ?_) g7, zi_seen_f (ch _ ?_) g8, ⟨n + 1, by omega, ?_, ?_, fun i hi => ?_⟩⟩
        · intro i j d; unfold zd_edge at d; omega
        · intro i j d; unfold zd_now at d; omega
        · intro i j d; unfold zd_seed at d; omega
        · intro i j d; unfold zd_past at d; omega
        · intro i j d; unfold zd_img at d; omega
        · intro i j d; unfold zd_text at d; omega
        · intro i j d; unfold zd_fault at d; omega
        · intro i j d; unfold zd_seen at d; omega
        · rw [← hS2, ← hS1]; simp only [zz_up]; rfl
        · rw [← hS2, ← hS1]; simp only [zz_up]; rfl
        · have k385 : S2 385 i = if i = n then nI j else S 385 i := by rw [← hS2, ← hS1]; simp only [zz_up]; grind
          have k386 : S2 386 i = if i = n then nI x else S 386 i := by rw [← hS2, ← hS1]; simp only [zz_up]; grind
          have k387 : S2 387 i = if i = n then nI b else S 387 i := by rw [← hS2, ← hS1]; simp only [zz_up]; grind
          have k406 : ∀ z, S2 406 z = if z = 3 * n + 2 then nI b else if z = 3 * n + 1 then nI x else if z = 3 * n then nI j else S 406 z := fun z => by
            rw [← hS2, zz_up1 (by omega), zz_upo, zz_upo, zz_upo, fr1 406 (by omega)]
          by_cases q : i = n
          · subst q
            refine ⟨j, x, b, hj, hx, hb, ?_, ?_, ?_, ?_, ?_, ?_⟩
            · rw [k385, if_pos rfl]
            · rw [k406, if_neg (by omega), if_neg (by omega), if_pos rfl]
            · rw [k386, if_pos rfl]
            · rw [k406, if_neg (by omega), if_pos rfl]
            · rw [k387, if_pos rfl]
            · rw [k406, if_pos rfl]
          · obtain ⟨p1, w1, t1, a1, a2, a3, a4, a5, a6, a7, a8, a9⟩ := hl i (by omega)
            refine ⟨p1, w1, t1, a1, a2, a3, ?_, ?_, ?_, ?_, ?_, ?_⟩
            · rw [k385, if_neg q, a4]
            · rw [k406, if_neg (by omega), if_neg (by omega), if_neg (by omega), a5]
            · rw [k386, if_neg q, a6]
            · rw [k406, if_neg (by omega), if_neg (by omega), if_neg (by omega), a7]
            · rw [k387, if_neg q, a8]
            · rw [k406, if_neg (by omega), if_neg (by omega), if_neg (by omega), a9]
      · have : n = 20 := by omega
        subst this
        refine zo_two (r := -1000000004) (S1 := S) (S2 := S) ?_ ?_ gs
        · unfold m_Top_write
          simp only [sy_c, zp_isPerson hcl.2.1 h6 hj, zp_isWord_t hx, h2]; rfl
        · unfold m_Model_write
          simp only [sy_c, zq_isOne_t hm.2.1 h6 hj, zq_in3_t hx, h0]; rfl
    · refine zo_two (r := -1000000002) (S1 := S) (S2 := S) ?_ ?_ gs
      · unfold m_Top_write; simp only [sy_c, zp_isPerson hcl.2.1 h6 hj, zp_isWord_f hx]; rfl
      · unfold m_Model_write; simp only [sy_c, zq_isOne_t hm.2.1 h6 hj, zq_in3_f hx]; rfl
  · refine zo_two (r := -1000000001) (S1 := S) (S2 := S) ?_ ?_ gs
    · unfold m_Top_write; rw [zp_isPerson_f hcl.2.1 h]; rfl
    · unfold m_Model_write; rw [zq_isOne_f hm.2.1 hw.2.1 h]; rfl
/-! the book judged: the first line that is otherwise -/
noncomputable def zs_judge (e : Nat → Nat → Int32) (P X T : Nat → Nat) : Nat → Nat → (Nat → Int32) → Int32
  | 0, _, _ => -1
  | n + 1, i, v => zs_if (v 4 = nI (P i) ∨ v 5 = nI (P i)) (nI i)
      (zs_if (zs_falls e v (P i) (X i)) (zs_if (T i = 1) (zs_judge e P X T n (i + 1) (zs_trick v (P i) (X i))) (nI i))
        (zs_if (T i = 0) (zs_judge e P X T n (i + 1) v) (nI i)))
theorem zo_judge : zo_ok m_Top_judge m_Model_judge := by
  intro S e wc M c hc g
  have gg := g
  obtain ⟨⟨hw, hm, hcl⟩, hnow, -, -, -, -, -, -, ⟨n, hn, h2, h0, hl⟩⟩ := g
  have hM := hw.2.1
  obtain ⟨P, X, T, hPXT⟩ : ∃ P X T : Nat → Nat, ∀ i, i < n → P i < M ∧ X i < 3 ∧ T i < 2 ∧ S 385 i = nI (P i) ∧ S 406 (3 * i) = nI (P i) ∧ S 386 i = nI (X i) ∧ S 406 (3 * i + 1) = nI (X i) ∧ S 387 i = nI (T i) ∧ S 406 (3 * i + 2) = nI (T i) := by
    have h : ∀ i, ∃ p w t : Nat, i < n → p < M ∧ w < 3 ∧ t < 2 ∧ S 385 i = nI p ∧ S 406 (3 * i) = nI p ∧ S 386 i = nI w ∧ S 406 (3 * i + 1) = nI w ∧ S 387 i = nI t ∧ S 406 (3 * i + 2) = nI t := fun i => by
      by_cases q : i < n
      · obtain ⟨p, w, t, r⟩ := hl i q
        exact ⟨p, w, t, fun _ => r⟩
      · exact ⟨0, 0, 0, fun z => absurd z q⟩
    exact ⟨fun i => (h i).choose, fun i => (h i).choose_spec.choose, fun i => (h i).choose_spec.choose_spec.choose, fun i hi => (h i).choose_spec.choose_spec.choose_spec hi⟩
  have W := hnow.2
  unfold m_Top_judge m_Book_firstWrong
  simp only [zz_c, zz_some]
  refine zz_mono (zp_copyFrom (k := 50) (a := 45) (by omega)) (fun r S1 ⟨f1, k1⟩ => ?_)
  refine zz_mono (P := fun r S2 => r = zs_judge e P X T n 0 (zv_M S 400 0) ∧ zf_o S S2 50 54) ?_ (fun r S2 ⟨hr, f2⟩ => ?_)
  · refine zz_loopX (ap := fun (k : zt_1) (t : Nat × sy_St) => k (nI t.1) t.2) (fun t => n - t.1) (fun t => t.1 ≤ n ∧ zf_o S t.2 50 54 ∧ zv_W (zv_K t.2 50) M c ∧ zs_judge e P X T n 0 (zv_M S 400 0) = zs_judge e P X T (n - t.1) t.1 (zv_K t.2 50)) ?_ sy_F (0, S1) (zz_F (by simp only; omega)) ⟨by simp only; omega, f1, by simp only; rw [k1, hnow.1]; exact W, by simp only; rw [k1, hnow.1]; rfl⟩
    rintro k ⟨i, S2⟩ ⟨hi, hf, hW, hz⟩ hk
    simp only at hi hf hW hz hk ⊢
    unfold m_Book_firstWrong_B2
    rw [zz_i, hf 384 (by omega), h2]
    refine ⟨fun hle => ?_, fun hnle => ?_⟩
    · have : i = n := by
        rcases Nat.lt_or_ge i n with q | q
        · exact absurd hle (nI_ge q (by omega))
        · omega
      subst this
      rw [zz_some, hz, Nat.sub_self]
      exact ⟨rfl, hf⟩
    · have hi3 : i < n := by
        rcases Nat.lt_or_ge i n with q | q
        · exact q
        · exact absurd (nI_le q (by omega)) hnle
      obtain ⟨a1, a2, a3, a4, a5, a6, a7, a8, a9⟩ := hPXT i hi3
      have gi : sy_in (nI i) 20 = True := eq_true (zz_in (by omega) (by omega))
      have hs : zs_judge e P X T (n - i) i (zv_K S2 50) = zs_if (zv_K S2 50 4 = nI (P i) ∨ zv_K S2 50 5 = nI (P i)) (nI i) (zs_if (zs_falls e (zv_K S2 50) (P i) (X i)) (zs_if (T i = 1) (zs_judge e P X T (n - (i + 1)) (i + 1) (zs_trick (zv_K S2 50) (P i) (X i))) (nI i)) (zs_if (T i = 0) (zs_judge e P X T (n - (i + 1)) (i + 1) (zv_K S2 50)) (nI i))) := by
        rw [show n - i = (n - (i + 1)) + 1 by omega]; rfl
      rw [hs] at hz
      have hc2 : ze_C S2 e wc M := zf_eC hf (by omega) hcl
      simp only [zz_g, gi, true_and, zz_cl (show i < 2147483648 by omega)]
      rw [hf 385 (by omega), a4, zz_c, zp_isHolding (by omega), zz_some]
      by_cases hh : S2 50 9 = nI (P i) ∨ S2 50 10 = nI (P i)
      · rw [if_pos hh, zz_i]
        refine ⟨fun q => absurd q (by decide), fun _ => ?_⟩
        have hh' : zv_K S2 50 4 = nI (P i) ∨ zv_K S2 50 5 = nI (P i) := hh
        rw [zz_some, hz, zs_if_t hh']
        exact ⟨rfl, hf⟩
      · rw [if_neg hh, zz_i]
        have hh' : ¬ (zv_K S2 50 4 = nI (P i) ∨ zv_K S2 50 5 = nI (P i)) := hh
        rw [zs_if_f hh'] at hz
        refine ⟨fun _ => ?_, fun q => absurd rfl q⟩
        simp only [zz_g, gi, true_and]
        rw [hf 385 (by omega), hf 386 (by omega), a4, a6, zz_c]
        obtain ⟨b1, b2⟩ := zp_trick (k := 50) hc2 hw a1 a2
        by_cases hfa : zs_falls e (zv_K S2 50) (P i) (X i)
        · rw [zs_if_t hfa] at hz
          refine zz_mono (b1 hfa) (fun r S3 ⟨hr, f3, k3⟩ => ?_)
          subst hr
          have f23 := zf_trans hf f3
          simp only [zz_g, gi, true_and]
          rw [f23 387 (by omega), a8, zz_i]
          refine ⟨fun q => ?_, fun q => ?_⟩
          · have hT : T i = 1 := by
              have := (nI_eq (show 1 < 2 ^ 31 by omega) (show T i < 2 ^ 31 by omega)).mp q
              omega
            rw [zs_if_t hT] at hz
            simp only [zz_b, nI_1]
            refine hk (i + 1, S3) ⟨by simp only; omega, f23, ?_, ?_⟩ (by simp only; omega)
            · simp only; rw [k3]; exact zs_trick_W hM hW a1 a2
            · simp only; rw [k3]; exact hz
          · have hT : ¬ T i = 1 := fun z => q (by rw [z]; rfl)
            rw [zs_if_f hT] at hz
            rw [zz_some, hz]
            exact ⟨rfl, f23⟩
        · rw [zs_if_f hfa] at hz
          rw [b2 hfa, zz_some]
          simp only [zz_g, gi, true_and]
          rw [hf 387 (by omega), a8, zz_i]
          refine ⟨fun q => ?_, fun q => ?_⟩
          · have hT : T i = 0 := by
              have := (nI_eq (show 0 < 2 ^ 31 by omega) (show T i < 2 ^ 31 by omega)).mp q
              omega
            rw [zs_if_t hT] at hz
            simp only [zz_b, nI_1]
            exact hk (i + 1, S2) ⟨by simp only; omega, hf, hW, hz⟩ (by simp only; omega)
          · have hT : ¬ T i = 0 := fun z => q (by rw [z]; rfl)
            rw [zs_if_f hT] at hz
            rw [zz_some, hz]
            exact ⟨rfl, hf⟩
  · subst hr
    have hm2 : ze_M S2 e wc M := zf_eM f2 (by omega) hm
    have v2 : zv_M S2 400 0 = zv_M S 400 0 := zf_M f2 (by omega)
    unfold m_Model_judge
    rw [zz_c]
    refine zz_mono (zq_copyV (a := 400) (b := 401) (by omega)) (fun r3 S3 ⟨f3, k3⟩ => ?_)
    refine zz_loopX (ap := fun (k : zt_1) (t : Nat × sy_St) => k (nI t.1) t.2) (fun t => n - t.1) (fun t => t.1 ≤ n ∧ zf_o S2 t.2 401 401 ∧ zv_W (zv_M t.2 401 0) M c ∧ zs_judge e P X T n 0 (zv_M S 400 0) = zs_judge e P X T (n - t.1) t.1 (zv_M t.2 401 0)) ?_ sy_F (0, S3) (zz_F (by simp only; omega)) ⟨by simp only; omega, f3, by simp only; rw [k3, v2]; exact W, by simp only; rw [k3, v2]; rfl⟩
    rintro k ⟨i, S4⟩ ⟨hi, hf, hW, hz⟩ hk
    simp only at hi hf hW hz hk ⊢
    have fin : ∀ S5, zf_o S2 S5 401 401 → zi_Inv S5 (c + 100) := fun S5 f5 => zo_scr gg (fun x hx => by rw [f5 x (by omega), f2 x (by omega)])
    unfold m_Model_judge_B15
    rw [zz_i, hf 392 (by omega), f2 392 (by omega), h0]
    refine ⟨fun hle => ?_, fun hnle => ?_⟩
    · have : i = n := by
        rcases Nat.lt_or_ge i n with q | q
        · exact absurd hle (nI_ge q (by omega))
        · omega
      subst this
      rw [zz_some, hz, Nat.sub_self]
      exact ⟨rfl, fin S4 hf⟩
    · have hi3 : i < n := by
        rcases Nat.lt_or_ge i n with q | q
        · exact q
        · exact absurd (nI_le q (by omega)) hnle
      obtain ⟨a1, a2, a3, a4, a5, a6, a7, a8, a9⟩ := hPXT i hi3
      have b3 : (3 * nI i : Int32) = nI (3 * i) := by rw [show (3 : Int32) = nI 3 from rfl, pk_mul]
      have b31 : (nI (3 * i) + 1 : Int32) = nI (3 * i + 1) := nI_1 _
      have b32 : (nI (3 * i) + 2 : Int32) = nI (3 * i + 2) := by rw [show (2 : Int32) = nI 2 from rfl, nI_add]
      have gi0 : sy_in (nI (3 * i)) 60 = True := eq_true (zz_in (by omega) (by omega))
      have gi1 : sy_in (nI (3 * i + 1)) 60 = True := eq_true (zz_in (by omega) (by omega))
      have gi2 : sy_in (nI (3 * i + 2)) 60 = True := eq_true (zz_in (by omega) (by omega))
      have c0 : (nI (3 * i)).toNatClampNeg = 3 * i := zz_cl (by omega)
      have c1 : (nI (3 * i + 1)).toNatClampNeg = 3 * i + 1 := zz_cl (by omega)
      have c2 : (nI (3 * i + 2)).toNatClampNeg = 3 * i + 2 := zz_cl (by omega)
      have hs : zs_judge e P X T (n - i) i (zv_M S4 401 0) = zs_if (zv_M S4 401 0 4 = nI (P i) ∨ zv_M S4 401 0 5 = nI (P i)) (nI i) (zs_if (zs_falls e (zv_M S4 401 0) (P i) (X i)) (zs_if (T i = 1) (zs_judge e P X T (n - (i + 1)) (i + 1) (zs_trick (zv_M S4 401 0) (P i) (X i))) (nI i)) (zs_if (T i = 0) (zs_judge e P X T (n - (i + 1)) (i + 1) (zv_M S4 401 0)) (nI i))) := by
        rw [show n - i = (n - (i + 1)) + 1 by omega]; rfl
      rw [hs] at hz
      have hm4 : ze_M S4 e wc M := zd_eM (fun x j d => by rw [hf x (by omega)]) hm2
      have r406 : S4 406 = S 406 := by rw [hf 406 (by omega), f2 406 (by omega)]
      simp only [zz_b, zz_g, b3, gi0, true_and, c0]
      rw [r406, a5, zz_c, zq_holds, zz_some, show S4 401 4 = zv_M S4 401 0 4 from rfl, show S4 401 5 = zv_M S4 401 0 5 from rfl]
      by_cases hh : zv_M S4 401 0 4 = nI (P i) ∨ zv_M S4 401 0 5 = nI (P i)
      · rw [if_pos (hh.elim (fun y => Or.inl y.symm) (fun y => Or.inr y.symm)), zz_i]
        refine ⟨fun q => absurd q (by decide), fun _ => ?_⟩
        rw [zz_some, hz, zs_if_t hh]
        exact ⟨rfl, fin S4 hf⟩
      · have hh2 : ¬ (nI (P i) = zv_M S4 401 0 4 ∨ nI (P i) = zv_M S4 401 0 5) := fun z => hh (z.elim (fun y => Or.inl y.symm) (fun y => Or.inr y.symm))
        rw [if_neg hh2, zz_i]
        rw [zs_if_f hh] at hz
        refine ⟨fun _ => ?_, fun q => absurd rfl q⟩
        simp only [zz_b, zz_g, b31, gi1, true_and, c1]
        rw [r406, a7, zz_c]
        obtain ⟨d1, d2⟩ := zq_offers (a := 401) hm4 hw a1 a2 (hW.2.2.2.2.2 _ a1)
        by_cases hfa : zs_falls e (zv_M S4 401 0) (P i) (X i)
        · rw [zs_if_t hfa] at hz
          refine zz_mono (d1 hfa) (fun r S5 ⟨hr, f5, k5, _⟩ => ?_)
          subst hr
          have f25 := zf_trans hf f5
          have r5 : S5 406 = S 406 := by rw [f5 406 (by omega), r406]
          simp only [zz_b, zz_g, b32, gi2, true_and, c2]
          rw [r5, a9, zz_i]
          refine ⟨fun q => ?_, fun q => ?_⟩
          · have hT : T i = 1 := (nI_eq (show T i < 2 ^ 31 by omega) (show 1 < 2 ^ 31 by omega)).mp q
            rw [zs_if_t hT] at hz
            rw [zz_i]
            refine ⟨fun _ => ?_, fun z => absurd trivial z⟩
            simp only [zz_b, nI_1]
            refine hk (i + 1, S5) ⟨by simp only; omega, f25, ?_, ?_⟩ (by simp only; omega)
            · simp only; rw [k5]; exact zs_trick_W hM hW a1 a2
            · simp only; rw [k5]; exact hz
          · have hT : ¬ T i = 1 := fun z => q (by rw [z]; rfl)
            rw [zs_if_f hT] at hz
            rw [zz_i]
            refine ⟨fun z => absurd z (by decide), fun _ => ?_⟩
            rw [zz_some, hz]
            exact ⟨rfl, fin S5 f25⟩
        · rw [zs_if_f hfa] at hz
          rw [d2 hfa, zz_some]
          simp only [zz_b, zz_g, b32, gi2, true_and, c2]
          rw [r406, a9, zz_i]
          refine ⟨fun q => ?_, fun q => ?_⟩
          · have hT : ¬ T i = 0 := fun z => by
              have := (nI_eq (show T i < 2 ^ 31 by omega) (show 1 < 2 ^ 31 by omega)).mp q
              omega
            rw [zs_if_f hT] at hz
            rw [zz_i]
            refine ⟨fun z => absurd z (by decide), fun _ => ?_⟩
            rw [zz_some, hz]
            exact ⟨rfl, fin S4 hf⟩
          · have hT : T i = 0 := by
              rcases (show T i = 0 ∨ T i = 1 by omega) with z | z
              · exact z
              · exact absurd (by rw [z]; rfl) q
            rw [zs_if_t hT] at hz
            rw [zz_i]
            refine ⟨fun _ => ?_, fun z => absurd trivial z⟩
            simp only [zz_b, nI_1]
            exact hk (i + 1, S4) ⟨by simp only; omega, hf, hW, hz⟩ (by simp only; omega)
