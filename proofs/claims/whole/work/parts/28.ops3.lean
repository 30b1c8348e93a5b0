theorem zi_two {S S1 S2 : sy_St} {e : Nat → Nat → Int32} {wc M c c2 : Nat} {v : Nat → Int32} (g : zi_all S e wc M c) (hc : c ≤ c2) (f1 : zf_o S S1 45 49) (k1 : zv_K S1 45 = v) (f2 : zf_o S1 S2 400 400) (k2 : zv_M S2 400 0 = v) (h6 : S2 400 6 = S1 400 6) (hW : zv_W v M c2) : zi_all S2 e wc M c2 := by
  refine zi_step g hc (fun i h1 h2 => ?_) ?_ ?_ ?_
  · rw [f2 i (by omega), f1 i (by omega)]
  · rw [zf_K f2 (by omega), k1, k2]
  · rw [k2]; exact hW
  · rw [h6, f1 400 (by omega)]
theorem zv_hold_M {S : sy_St} {e : Nat → Nat → Int32} {wc M c : Nat} (g : zi_all S e wc M c) (x : Int32) : (S 45 9 = x ∨ S 45 10 = x) ↔ (x = S 400 4 ∨ x = S 400 5) := by
  have h4 : S 45 9 = S 400 4 := by rw [show S 45 9 = zv_K S 45 4 from rfl, g.2.1.1]; rfl
  have h5 : S 45 10 = S 400 5 := by rw [show S 45 10 = zv_K S 45 5 from rfl, g.2.1.1]; rfl
  rw [h4, h5]
  exact ⟨fun h => h.elim (fun q => Or.inl q.symm) (fun q => Or.inr q.symm), fun h => h.elim (fun q => Or.inl q.symm) (fun q => Or.inr q.symm)⟩
theorem zp_isWord_t {S : sy_St} {x : Nat} (hx : x < 3) : m_Top_isWord (nI x) S = some (1, S) := by
  unfold m_Top_isWord
  rw [if_neg (nI_pos (by omega)), show (3 : Int32) = nI 3 from rfl, if_neg (nI_ge hx (by omega))]
theorem zp_isWord_f {S : sy_St} {w : Int32} (h : w < 0 ∨ 3 ≤ w) : m_Top_isWord w S = some (0, S) := by
  unfold m_Top_isWord
  by_cases a : w < 0
  · rw [if_pos a]
  · rw [if_neg a, if_pos (h.resolve_left a)]
theorem zo_wrd (w : Int32) : (∃ x, x < 3 ∧ w = nI x) ∨ (w < 0 ∨ 3 ≤ w) := by
  rcases pk_ix w (n := 3) (by omega) with h | h | h
  · exact Or.inr (Or.inl h)
  · exact Or.inr (Or.inr h)
  · exact Or.inl h
theorem zq_in3_t {S : sy_St} {x : Nat} (hx : x < 3) : m_Model_in (nI x) 0 2 S = some (1, S) := zq_in_t (nI_pos' (by omega)) (by rw [show (2 : Int32) = nI 2 from rfl]; exact nI_le (by omega) (by omega))
theorem zq_in3_f {S : sy_St} {w : Int32} (h : w < 0 ∨ 3 ≤ w) : m_Model_in w 0 2 S = some (0, S) := zq_in_f (by grind)
theorem zo_offer (p w : Int32) : zo_ok (m_Top_offer p w) (m_Model_offer p w) := by
  intro S e wc M c hc g
  have gs := zo_same g
  have gg := g
  obtain ⟨⟨hw, hm, hcl⟩, ⟨hv, hW⟩, -⟩ := g
  rcases zo_person p hw.2.1 with ⟨j, hj, rfl⟩ | h
  · have h6 := hw.2.1
    rcases zo_wrd w with ⟨x, hx, rfl⟩ | hx
    · by_cases hh : S 45 9 = nI j ∨ S 45 10 = nI j
      · refine zo_two (r := -1000000003) (S1 := S) (S2 := S) ?_ ?_ gs
        · unfold m_Top_offer
          simp only [sy_c, zp_isPerson hcl.2.1 h6 hj, zp_isWord_t hx, zp_isHolding (S := S) (k := 45) (show j < 2147483648 by omega), if_pos hh]; rfl
        · unfold m_Model_offer
          simp only [sy_c, zq_isOne_t hm.2.1 h6 hj, zq_in3_t hx, zq_holds, if_pos ((zv_hold_M gg _).mp hh)]; rfl
      · have hn := fun q => hh ((zv_hold_M gg (nI j)).mpr q)
        obtain ⟨a1, a2⟩ := zp_trick (k := 45) hcl hw hj hx
        by_cases hf : zs_falls e (zv_K S 45) j x
        · unfold m_Top_offer
          rw [zp_isPerson hcl.2.1 h6 hj]
          simp only [zz_c, zz_some, zz_i]
          rw [zp_isWord_t hx, zz_some, zp_isHolding (by omega), if_neg hh, zz_some]
          refine ⟨fun q => absurd q (by decide), fun _ => ⟨fun q => absurd q (by decide), fun _ => ⟨fun _ => ?_, fun q => absurd rfl q⟩⟩⟩
          refine zz_mono (a1 hf) (fun r S1 ⟨q1, q2, q3⟩ => ?_)
          subst q1
          refine ⟨fun q => absurd q (by decide), fun _ => ?_⟩
          have hm1 : ze_M S1 e wc M := zf_eM q2 (by omega) hm
          have hvM : zv_M S1 400 0 = zv_M S 400 0 := zf_M q2 (by omega)
          obtain ⟨b1, b2⟩ := zq_offers (a := 400) hm1 hw hj hx (by rw [hvM]; exact hW.2.2.2.2.2 j hj)
          rw [hvM] at b1
          unfold m_Model_offer
          rw [zq_isOne_t hm1.2.1 h6 hj]
          simp only [zz_c, zz_some, zz_i]
          rw [zq_in3_t hx, zz_some, zq_holds, q2 400 (by omega), if_neg hn, zz_some]
          refine ⟨fun q => absurd q (by decide), fun _ => ⟨fun q => absurd q (by decide), fun _ => ⟨fun _ => ?_, fun q => absurd rfl q⟩⟩⟩
          refine zz_mono (b1 (by rw [← hv]; exact hf)) (fun r S2 ⟨r1, r2, r3, r4⟩ => ?_)
          subst r1
          refine ⟨fun q => absurd q (by decide), fun _ => ⟨trivial, e, wc, M, ?_⟩⟩
          exact zi_two gg (by omega) q2 (by rw [q3, hv]) r2 r3 r4 (zv_W_m (zs_trick_W h6 hW hj hx) (by omega))
        · refine zo_two (r := 0) (S1 := S) (S2 := S) ?_ ?_ gs
          · unfold m_Top_offer
            simp only [sy_c, zp_isPerson hcl.2.1 h6 hj, zp_isWord_t hx, zp_isHolding (S := S) (k := 45) (show j < 2147483648 by omega), if_neg hh, a2 hf]; rfl
          · unfold m_Model_offer
            obtain ⟨b1, b2⟩ := zq_offers (a := 400) hm hw hj hx (hW.2.2.2.2.2 j hj)
            simp only [sy_c, zq_isOne_t hm.2.1 h6 hj, zq_in3_t hx, zq_holds, if_neg hn, b2 (by rw [← hv]; exact hf)]; rfl
    · refine zo_two (r := -1000000002) (S1 := S) (S2 := S) ?_ ?_ gs
      · unfold m_Top_offer; simp only [sy_c, zp_isPerson hcl.2.1 h6 hj, zp_isWord_f hx]; rfl
      · unfold m_Model_offer; simp only [sy_c, zq_isOne_t hm.2.1 h6 hj, zq_in3_f hx]; rfl
  · refine zo_two (r := -1000000001) (S1 := S) (S2 := S) ?_ ?_ gs
    · unfold m_Top_offer; rw [zp_isPerson_f hcl.2.1 h]; rfl
    · unfold m_Model_offer; rw [zq_isOne_f hm.2.1 hw.2.1 h]; rfl
/-! a father who holds -/
def zs_son (e : Nat → Nat → Int32) (v : Nat → Int32) (j : Nat) : Prop := ¬ e 2 (5 * j + 4) = -1 ∧ (e 2 (5 * j + 4) = v 4 ∨ e 2 (5 * j + 4) = v 5)
theorem zp_isSon {S : sy_St} {e : Nat → Nat → Int32} {wc M j : Nat} {x : Int32} (he : ze_C S e wc M) (hw : ze_W e wc M) (hj : j < M) (hx : x = -1 ∨ ∃ i, i < M ∧ x = nI i) : (¬ x = -1 ∧ e 2 (5 * j + 4) = x → m_Edge_isSon 1 (nI j) x S = some (1, S)) ∧ (¬ (¬ x = -1 ∧ e 2 (5 * j + 4) = x) → m_Edge_isSon 1 (nI j) x S = some (0, S)) := by
  have h6 : j < 6 := by have := hw.2.1; omega
  have i1 : sy_in (nI j) 6 = True := eq_true (zz_in h6 (by omega))
  have c1 : (nI j).toNatClampNeg = j := zz_cl (by omega)
  have p4 := (he.2.2.2.1 j hj).2.2.2.2
  unfold m_Edge_isSon
  rw [zp_isPerson he.2.1 hw.2.1 hj]
  simp only [sy_c]
  rw [if_neg (by decide)]
  rcases hx with rfl | ⟨i, hi, rfl⟩
  · rw [zp_isPerson_no]
    exact ⟨fun h => absurd rfl h.1, fun _ => rfl⟩
  · rw [zp_isPerson he.2.1 hw.2.1 hi]
    simp only [sy_g, i1, if_true, c1, show (1 : Nat) + 6 = 7 from rfl, p4]
    rw [if_neg (by decide)]
    refine ⟨fun h => by rw [if_pos h.2], fun h => ?_⟩
    rw [if_neg (fun q => h ⟨zq_ne (by have := hw.2.1; omega), q⟩)]
theorem zp_isFatherHolding {S : sy_St} {e : Nat → Nat → Int32} {wc M k j c : Nat} (he : ze_C S e wc M) (hw : ze_W e wc M) (hj : j < M) (hW : zv_W (zv_K S k) M c) : (zs_son e (zv_K S k) j → m_Sky_isFatherHolding k (nI j) S = some (1, S)) ∧ (¬ zs_son e (zv_K S k) j → m_Sky_isFatherHolding k (nI j) S = some (0, S)) := by
  have h4 : S k 9 = -1 ∨ ∃ i, i < M ∧ S k 9 = nI i := zv_hold hW
  have h5 : S k 10 = -1 ∨ ∃ i, i < M ∧ S k 10 = nI i := hW.2.2.2.1
  obtain ⟨a1, a2⟩ := zp_isSon he hw hj h4
  obtain ⟨b1, b2⟩ := zp_isSon he hw hj h5
  unfold m_Sky_isFatherHolding zs_son
  rw [zvK_4, zvK_5]
  generalize e 2 (5 * j + 4) = f at a1 a2 b1 b2 ⊢
  by_cases h : ¬ S k 9 = -1 ∧ f = S k 9
  · rw [a1 h]
    refine ⟨fun _ => rfl, fun q => absurd ⟨by rw [h.2]; exact h.1, Or.inl h.2⟩ q⟩
  · rw [a2 h]
    simp only [sy_c, if_true]
    by_cases h2 : ¬ S k 10 = -1 ∧ f = S k 10
    · rw [b1 h2]
      refine ⟨fun _ => rfl, fun q => absurd ⟨by rw [h2.2]; exact h2.1, Or.inr h2.2⟩ q⟩
    · rw [b2 h2]
      refine ⟨fun q => ?_, fun _ => rfl⟩
      rcases q.2 with q2 | q2
      · exact absurd ⟨fun z => q.1 (by rw [q2, z]), q2⟩ h
      · exact absurd ⟨fun z => q.1 (by rw [q2, z]), q2⟩ h2
theorem zq_fatherOf {S : sy_St} {e : Nat → Nat → Int32} {wc M j : Nat} (he : ze_M S e wc M) (hw : ze_W e wc M) (hj : j < M) : m_Model_fatherOf (nI j) S = some (e 2 (5 * j + 4), S) := by
  have hM := hw.2.1
  have b3 : (5 * nI j + 4 : Int32) = nI (5 * j + 4) := by rw [show (5 : Int32) = nI 5 from rfl, pk_mul, show (4 : Int32) = nI 4 from rfl, nI_add]
  unfold m_Model_fatherOf
  simp only [sy_b, sy_g, b3]
  rw [if_pos (zz_in (by omega) (by omega)), zz_cl (by omega), he.2.2.2.1 _ (by omega)]
theorem zq_isSon {S : sy_St} {e : Nat → Nat → Int32} {wc M j : Nat} (he : ze_M S e wc M) (hw : ze_W e wc M) (hj : j < M) : (zs_son e (zv_M S 400 0) j ∧ ¬ (nI j = S 400 4 ∨ nI j = S 400 5) → m_Model_isSonOfWhoHolds (nI j) S = some (1, S)) ∧ (¬ (zs_son e (zv_M S 400 0) j ∧ ¬ (nI j = S 400 4 ∨ nI j = S 400 5)) → m_Model_isSonOfWhoHolds (nI j) S = some (0, S)) := by
  unfold m_Model_isSonOfWhoHolds zs_son
  rw [zq_fatherOf he hw hj]
  simp only [sy_c]
  rw [zq_fatherOf he hw hj]
  simp only [sy_c]
  rw [show zv_M S 400 0 4 = S 400 4 from rfl, show zv_M S 400 0 5 = S 400 5 from rfl]
  simp only [zq_holds]
  generalize e 2 (5 * j + 4) = f
  by_cases a : f = -1
  · rw [if_pos a]
    exact ⟨fun h => absurd a h.1.1, fun _ => rfl⟩
  · rw [if_neg a]
    by_cases b : f = S 400 4 ∨ f = S 400 5
    · rw [if_pos b]
      by_cases d : nI j = S 400 4 ∨ nI j = S 400 5
      · rw [if_pos d]
        exact ⟨fun h => absurd d h.2, fun _ => rfl⟩
      · rw [if_neg d]
        exact ⟨fun _ => rfl, fun h => absurd ⟨⟨a, b⟩, d⟩ h⟩
    · rw [if_neg b]
      exact ⟨fun h => absurd h.1.2 b, fun _ => rfl⟩
theorem zo_take (p : Int32) : zo_ok (m_Top_take p) (m_Model_take p) := by
  intro S e wc M c hc g
  have gs := zo_same g
  have gg := g
  obtain ⟨⟨hw, hm, hcl⟩, ⟨hv, hW⟩, -⟩ := g
  rcases zo_person p hw.2.1 with ⟨j, hj, rfl⟩ | h
  · have h6 := hw.2.1
    obtain ⟨a1, a2⟩ := zp_isFatherHolding (k := 45) hcl hw hj (by rw [hv]; exact hW)
    obtain ⟨b1, b2⟩ := zq_isSon hm hw hj
    by_cases hh : S 45 9 = nI j ∨ S 45 10 = nI j
    · have hh2 := (zv_hold_M gg _).mp hh
      refine zo_two (r := -1000000003) (S1 := S) (S2 := S) ?_ ?_ gs
      · unfold m_Top_take
        simp only [sy_c, zp_isPerson hcl.2.1 h6 hj, zp_isHolding (S := S) (k := 45) (show j < 2147483648 by omega), if_pos hh]; rfl
      · unfold m_Model_take
        simp only [sy_c, zq_isOne_t hm.2.1 h6 hj, b2 (fun q => q.2 hh2)]; rfl
    · have hn := fun q => hh ((zv_hold_M gg (nI j)).mpr q)
      by_cases hs : zs_son e (zv_K S 45) j
      · unfold m_Top_take
        rw [zp_isPerson hcl.2.1 h6 hj]
        simp only [zz_c, zz_some, zz_i, zz_g]
        rw [zp_isHolding (by omega), if_neg hh, zz_some, a1 hs, zz_some]
        refine ⟨fun q => absurd q (by decide), fun _ => ⟨fun _ => ⟨fun q => absurd q (by decide), fun _ => ?_⟩, fun q => absurd rfl q⟩⟩
        refine zz_mono zp_handTo (fun r S1 ⟨q1, q2⟩ => ⟨zz_in (by omega) (by omega), ?_⟩)
        have q1' : zf_o S S1 45 49 := zf_mono q1 (by omega) (by omega)
        have hm1 : ze_M S1 e wc M := zf_eM q1 (by omega) hm
        have hvM : zv_M S1 400 0 = zv_M S 400 0 := zf_M q1 (by omega)
        obtain ⟨d1, d2⟩ := zq_isSon hm1 hw hj
        rw [hvM, q1 400 (by omega)] at d1
        unfold m_Model_take
        rw [zq_isOne_t hm1.2.1 h6 hj]
        simp only [zz_c, zz_some, zz_i]
        rw [d1 ⟨by rw [← hv]; exact hs, hn⟩, zz_some]
        refine ⟨fun q => absurd q (by decide), fun _ => ⟨fun q => absurd q (by decide), fun _ => ?_⟩⟩
        refine zz_mono zq_takesIt (fun r S2 ⟨r1, r2, r3⟩ => ?_)
        have hm2 : ze_M S2 e wc M := by
          unfold ze_M at hm1 ⊢
          rw [r1 392 (by omega), r1 397 (by omega), r1 398 (by omega), r1 399 (by omega)]
          exact hm1
        rw [zq_fatherOf hm2 hw hj, zz_some]
        refine ⟨?_, e, wc, M, zi_two gg (by omega) q1' (by rw [q2, hv]) r1 (by rw [r2, hvM]) r3 (zv_W_m (zs_hand_W hW hj) (by omega))⟩
        rw [q1 7 (by omega), zz_cl (by omega), (hcl.2.2.2.1 j hj).2.2.2.2]
      · refine zo_two (r := -1000000003) (S1 := S) (S2 := S) ?_ ?_ gs
        · unfold m_Top_take
          simp only [sy_c, zp_isPerson hcl.2.1 h6 hj, zp_isHolding (S := S) (k := 45) (show j < 2147483648 by omega), if_neg hh, a2 hs]; rfl
        · unfold m_Model_take
          simp only [sy_c, zq_isOne_t hm.2.1 h6 hj, b2 (fun q => hs (by rw [hv]; exact q.1))]; rfl
  · refine zo_two (r := -1000000001) (S1 := S) (S2 := S) ?_ ?_ gs
    · unfold m_Top_take; rw [zp_isPerson_f hcl.2.1 h]; rfl
    · unfold m_Model_take; rw [zq_isOne_f hm.2.1 hw.2.1 h]; rfl

theorem zp_areLevel {S : sy_St} {e : Nat → Nat → Int32} {wc M i j : Nat} (he : ze_C S e wc M) (hw : ze_W e wc M) (hi : i < M) (hj : j < M) : m_Edge_areLevel 1 (nI i) (nI j) S = some (if -1 ≤ e 2 (5 * i + 2) - e 2 (5 * j + 2) ∧ e 2 (5 * i + 2) - e 2 (5 * j + 2) ≤ 1 then 1 else 0, S) := by
  have hM := hw.2.1
  have g1 : sy_in (nI i) 6 = True := eq_true (zz_in (by omega) (by omega))
  have g2 : sy_in (nI j) 6 = True := eq_true (zz_in (by omega) (by omega))
  have c1 : (nI i).toNatClampNeg = i := zz_cl (by omega)
  have c2 : (nI j).toNatClampNeg = j := zz_cl (by omega)
  have p1 := (he.2.2.2.1 i hi).2.2.1
  have p2 := (he.2.2.2.1 j hj).2.2.1
  have b1 := (hw.2.2.2 i hi).1
  have b2 := (hw.2.2.2 j hj).1
  unfold m_Edge_areLevel
  simp only [sy_c, zp_isPerson he.2.1 hw.2.1 hi, zp_isPerson he.2.1 hw.2.1 hj, sy_g, g1, g2, if_true, c1, c2, show (1 : Nat) + 4 = 5 from rfl, p1, p2]
  rw [if_neg (by decide), if_neg (by decide)]
  have hd : -8 ≤ e 2 (5 * i + 2) - e 2 (5 * j + 2) ∧ e 2 (5 * i + 2) - e 2 (5 * j + 2) ≤ 8 := by
    generalize e 2 (5 * i + 2) = a at b1 ⊢
    generalize e 2 (5 * j + 2) = b at b2 ⊢
    clear he hw g1 g2 c1 c2 p1 p2
    grind
  generalize e 2 (5 * i + 2) - e 2 (5 * j + 2) = d at hd ⊢
  have : (1 < sy_abs d) ↔ ¬ (-1 ≤ d ∧ d ≤ 1) := by
    clear he hw g1 g2 c1 c2 p1 p2 b1 b2
    unfold sy_abs; grind
  by_cases q : -1 ≤ d ∧ d ≤ 1
  · rw [if_neg (fun z => (this.mp z) q), if_pos q]
  · rw [if_pos (this.mpr q), if_neg q]
theorem zq_areLevel {S : sy_St} {e : Nat → Nat → Int32} {wc M i j : Nat} (he : ze_M S e wc M) (hw : ze_W e wc M) (hi : i < M) (hj : j < M) : m_Model_areLevel (nI i) (nI j) S = some (if -1 ≤ e 2 (5 * i + 2) - e 2 (5 * j + 2) ∧ e 2 (5 * i + 2) - e 2 (5 * j + 2) ≤ 1 then 1 else 0, S) := by
  have hM := hw.2.1
  have b1 : (5 * nI i + 2 : Int32) = nI (5 * i + 2) := by rw [show (5 : Int32) = nI 5 from rfl, pk_mul, show (2 : Int32) = nI 2 from rfl, nI_add]
  have b2 : (5 * nI j + 2 : Int32) = nI (5 * j + 2) := by rw [show (5 : Int32) = nI 5 from rfl, pk_mul, show (2 : Int32) = nI 2 from rfl, nI_add]
  have g1 : sy_in (nI (5 * i + 2)) 30 = True := eq_true (zz_in (by omega) (by omega))
  have g2 : sy_in (nI (5 * j + 2)) 30 = True := eq_true (zz_in (by omega) (by omega))
  have c1 : (nI (5 * i + 2)).toNatClampNeg = 5 * i + 2 := zz_cl (by omega)
  have c2 : (nI (5 * j + 2)).toNatClampNeg = 5 * j + 2 := zz_cl (by omega)
  have p1 := he.2.2.2.1 (5 * i + 2) (by omega)
  have p2 := he.2.2.2.1 (5 * j + 2) (by omega)
  unfold m_Model_areLevel
  simp only [sy_b, sy_g, sy_c, b1, b2, g1, g2, if_true, c1, c2, p1, p2]
  generalize e 2 (5 * i + 2) - e 2 (5 * j + 2) = a
  by_cases h : -1 ≤ a ∧ a ≤ 1
  · rw [zq_in_t h.1 h.2, if_pos h]; rfl
  · rw [zq_in_f h, if_neg h]; rfl
theorem zs_join_W {v : Nat → Int32} {M c j : Nat} (h : zv_W v M c) (hj : j < M) : zv_W (upd v 5 (nI j)) M c := by
  obtain ⟨a1, a2, a3, a4, a5, a6⟩ := h
  refine ⟨a1, a2, a3, Or.inr ⟨j, hj, rfl⟩, fun p hp => ?_, fun p hp => ?_⟩
  · have : upd v 5 (nI j) (7 + p) = v (7 + p) := by unfold upd; rw [if_neg (by omega)]
    rw [this]; exact a5 p hp
  · have : upd v 5 (nI j) (25 + p) = v (25 + p) := by unfold upd; rw [if_neg (by omega)]
    rw [this]; exact a6 p hp
theorem zo_join (p : Int32) : zo_ok (m_Top_join p) (m_Model_join p) := by
  intro S e wc M c hc g
  have gs := zo_same g
  have gg := g
  obtain ⟨⟨hw, hm, hcl⟩, ⟨hv, hW⟩, -⟩ := g
  have c4 : (4 : Int32).toNatClampNeg = 4 := rfl
  have c5 : (5 : Int32).toNatClampNeg = 5 := rfl
  have k5 : S 45 10 = S 400 5 := by rw [show S 45 10 = zv_K S 45 5 from rfl, hv]; rfl
  have k4 : S 45 9 = S 400 4 := by rw [show S 45 9 = zv_K S 45 4 from rfl, hv]; rfl
  rcases zo_person p hw.2.1 with ⟨j, hj, rfl⟩ | h
  · have h6 := hw.2.1
    have I := zp_isHolding (S := S) (k := 45) (show j < 2147483648 by omega)
    by_cases hh : S 45 9 = nI j ∨ S 45 10 = nI j
    · have hh2 := (zv_hold_M gg _).mp hh
      refine zo_two (r := -1000000003) (S1 := S) (S2 := S) ?_ ?_ gs
      · unfold m_Top_join
        simp only [sy_c, zp_isPerson hcl.2.1 h6 hj, I, if_pos hh]
        by_cases q : S 45 10 = -1
        · simp only [q, if_true]; rfl
        · simp only [q, if_false]; rfl
      · unfold m_Model_join
        simp only [sy_c, zq_isOne_t hm.2.1 h6 hj, zq_holds, if_pos hh2]; rfl
    · have hn := fun q => hh ((zv_hold_M gg (nI j)).mpr q)
      by_cases hb : S 400 5 = -1
      · obtain ⟨h, hhM, h4⟩ : ∃ h, h < M ∧ S 400 4 = nI h := by
          rcases hW.2.2.1 with ⟨q, -⟩ | q
          · omega
          · exact q
        by_cases hl : -1 ≤ e 2 (5 * h + 2) - e 2 (5 * j + 2) ∧ e 2 (5 * h + 2) - e 2 (5 * j + 2) ≤ 1
        · have hl2 : -1 ≤ e 2 (5 * j + 2) - e 2 (5 * h + 2) ∧ e 2 (5 * j + 2) - e 2 (5 * h + 2) ≤ 1 := by
            have b1 := (hw.2.2.2 h hhM).1
            have b2 := (hw.2.2.2 j hj).1
            generalize e 2 (5 * h + 2) = a at *
            generalize e 2 (5 * j + 2) = b at *
            clear hm hcl hv hW gg gs
            grind
          have v1 : zv_K (sy_up S 45 10 (nI j)) 45 = upd (zv_M S 400 0) 5 (nI j) := by rw [show (10 : Nat) = 5 + 5 from rfl, zvK_up_s (by omega), hv]
          have he1 : ze_C (sy_up S 45 10 (nI j)) e wc M := zf_eC (zf_up (k := 45)) (by omega) hcl
          have hm1 : ze_M (sy_up S 45 10 (nI j)) e wc M := zf_eM (zf_up (k := 45)) (by omega) hm
          have W1 := zs_join_W hW hj
          have F1 := zp_forceHeld (k := 45) he1 hw (by rw [v1]; exact W1)
          have v2 : zv_M (sy_up (sy_up S 45 10 (nI j)) 400 5 (nI j)) 400 0 = upd (zv_M S 400 0) 5 (nI j) := by rw [zvM_up0 (by omega) (by omega), zvM_k (by omega)]
          have hm2 : ze_M (sy_up (sy_up S 45 10 (nI j)) 400 5 (nI j)) e wc M := by
            unfold ze_M at hm1 ⊢
            rw [zz_up1 (show 392 ≠ 400 by omega), zz_up1 (show 397 ≠ 400 by omega), zz_up1 (show 398 ≠ 400 by omega), zz_up1 (show 399 ≠ 400 by omega)]
            exact hm1
          have F2 := zq_forceOfAll (a := 400) hm2 hw (by rw [v2]; exact zv_hold W1) (by rw [v2]; exact W1.2.2.2.1)
          rw [v1] at F1
          rw [v2] at F2
          refine zo_two (S1 := sy_up S 45 10 (nI j)) (S2 := sy_up (sy_up S 45 10 (nI j)) 400 5 (nI j)) (r := zs_forceI e (upd (zv_M S 400 0) 5 (nI j)) (upd (zv_M S 400 0) 5 (nI j) 4) + zs_forceI e (upd (zv_M S 400 0) 5 (nI j)) (upd (zv_M S 400 0) 5 (nI j) 5)) ?_ ?_ ⟨e, wc, M, zi_two gg (by omega) (zf_mono (zf_up (k := 45)) (by omega) (by omega)) v1 (zf_up (k := 400)) v2 ?_ (zv_W_m W1 (by omega))⟩
          · unfold m_Top_join
            have hh1 : ¬ (nI h = nI j ∨ -1 = nI j) := by rw [k4, k5, h4, hb] at hh; exact hh
            simp only [sy_c, sy_b, zp_isPerson hcl.2.1 h6 hj, I, k5, hb, k4, h4, if_neg hh1, zp_areLevel hcl hw hhM hj, if_pos hl, F1, if_true]
            rfl
          · unfold m_Model_join
            have r5 : sy_up S 45 10 (nI j) 400 5 = -1 := by rw [zz_up1 (by omega), hb]
            have r4 : sy_up S 45 10 (nI j) 400 4 = nI h := by rw [zz_up1 (by omega), h4]
            have hn1 : ¬ (nI j = nI h ∨ nI j = -1) := by rw [h4, hb] at hn; exact hn
            simp only [sy_c, sy_b, zq_isOne_t hm1.2.1 h6 hj, zq_holds, r4, r5, if_neg hn1, c4, c5, zq_areLevel hm1 hw hj hhM, if_pos hl2, F2, if_true]
            rfl
          · rw [zz_upo, if_neg (by omega)]
        · have hl2 : ¬ (-1 ≤ e 2 (5 * j + 2) - e 2 (5 * h + 2) ∧ e 2 (5 * j + 2) - e 2 (5 * h + 2) ≤ 1) := by
            have b1 := (hw.2.2.2 h hhM).1
            have b2 := (hw.2.2.2 j hj).1
            generalize e 2 (5 * h + 2) = a at *
            generalize e 2 (5 * j + 2) = b at *
            clear hm hcl hv hW gg gs
            grind
          refine zo_two (r := -1000000003) (S1 := S) (S2 := S) ?_ ?_ gs
          · unfold m_Top_join
            have hh1 : ¬ (nI h = nI j ∨ -1 = nI j) := by rw [k4, k5, h4, hb] at hh; exact hh
            simp only [sy_c, sy_b, zp_isPerson hcl.2.1 h6 hj, I, k5, hb, k4, h4, if_neg hh1, zp_areLevel hcl hw hhM hj, if_neg hl, if_true]
            rfl
          · unfold m_Model_join
            have hn1 : ¬ (nI j = nI h ∨ nI j = -1) := by rw [h4, hb] at hn; exact hn
            simp only [sy_c, sy_b, zq_isOne_t hm.2.1 h6 hj, zq_holds, h4, hb, if_neg hn1, c4, c5, zq_areLevel hm hw hj hhM, if_neg hl2, if_true]
            rfl
      · refine zo_two (r := -1000000003) (S1 := S) (S2 := S) ?_ ?_ gs
        · unfold m_Top_join
          simp only [sy_c, zp_isPerson hcl.2.1 h6 hj, k5, if_neg hb]; rfl
        · unfold m_Model_join
          simp only [sy_c, zq_isOne_t hm.2.1 h6 hj, zq_holds, if_neg hn, c5, if_neg hb]; rfl
  · refine zo_two (r := -1000000001) (S1 := S) (S2 := S) ?_ ?_ gs
    · unfold m_Top_join; rw [zp_isPerson_f hcl.2.1 h]; rfl
    · unfold m_Model_join; rw [zq_isOne_f hm.2.1 hw.2.1 h]; rfl
