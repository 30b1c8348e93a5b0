/-! ===== the reference: people, words, fruit; all of a text ===== -/
def zx_lo (k : Nat) : Int32 := if k = 1 ∨ k = 2 then 1 else 0
def zx_hi (k : Nat) : Int32 := if k = 0 then 4 else if k = 1 then 20 else 9
theorem zq_pstep {kk : zt_2} {T : sy_St} {t : Nat → Int32} {n p k pn wn : Nat} {wf pf : Nat → Int32} {R : Bool × (Nat → Int32) × Bool × Int32} {Q : Int32 → sy_St → Prop} (hn : n ≤ 250) (ht : ∀ i, i < n → 0 ≤ t i) (hk : k < 4) (hpn : pn < 6) (h : zx_M T t n p true (wn, wf, pn, pf, R))
    (k1 : ∀ x T1, zx_num t n (zx_lo k) (zx_hi k) p = .inr x → zx_fm T T1 → zx_M T1 t n x.2 true (wn, wf, pn, pf, R) → T1 395 (5 * pn + k) = x.1 → (∀ i, i < 5 * pn + k → T1 395 i = T 395 i) → zz_wp (kk (nI (5 * pn)) (nI (k + 1)) T1) Q)
    (k0 : ∀ f T1, zx_num t n (zx_lo k) (zx_hi k) p = .inl f → zx_fm T T1 → zx_Y T1 f → Q 0 T1) : zz_wp (m_Model_isPersonLine_B24 kk (nI (5 * pn)) (nI k) T) Q := by
  have hJ : zz_wp (m_Model_isPersonLine_J65 kk (nI (5 * pn)) (nI k) (zx_lo k) (zx_hi k) T) Q := by
    unfold m_Model_isPersonLine_J65
    rw [zz_c]
    refine zz_mono (zq_isNumber hn ht h) (fun r V ⟨f1, h1⟩ => ?_)
    rcases h1 with ⟨f, e1, r0, y⟩ | ⟨x, e1, r1, hM1, e5, -, ta1⟩
    · rw [r0, if_pos rfl, zz_some]
      exact k0 f V e1 f1 y
    · rw [r1, if_neg (by decide), nI_add, zz_g]
      refine ⟨zz_in (by omega) (by omega), ?_⟩
      rw [zz_b, zz_b, nI_1, e5]
      simp only [zz_cl (show 5 * pn + k < 2147483648 by omega)]
      refine k1 x (sy_up V 395 (5 * pn + k) x.1) e1 (zx_fm_t f1 (zx_fm_a (by omega))) ?_ (by rw [zz_upo, if_pos rfl]) (fun i hi => by rw [zz_upo, if_neg (by omega), ta1 395 i (by omega)])
      obtain ⟨⟨g1, g1b⟩, g2, g3, g4, g5⟩ := hM1
      refine ⟨⟨by rw [zz_up1 (by omega)]; exact g1, fun i hi => by rw [zz_up1 (by omega)]; exact g1b i hi⟩, by rw [zz_up1 (by omega)]; exact g2, g3, by rw [zz_up1 (by omega)]; exact g4, ?_⟩
      obtain ⟨d1, d2, d3, d4, d5, d6, d7, d8, d9⟩ := g5
      exact ⟨by rw [zz_up1 (by omega)]; exact d1, fun i hi => by rw [zz_up1 (by omega)]; exact d2 i hi, by rw [zz_up1 (by omega)]; exact d3, fun i hi => by simp only at hi; rw [zz_upo, if_neg (by omega)]; exact d4 i hi, by rw [zz_up1 (by omega)]; exact d5, by rw [zz_up1 (by omega)]; exact d6, fun i hi => by rw [zz_up1 (by omega)]; exact d7 i hi, by rw [zz_up1 (by omega)]; exact d8, by rw [zz_up1 (by omega)]; exact d9⟩
  unfold m_Model_isPersonLine_B24
  have : k = 0 ∨ k = 1 ∨ k = 2 ∨ k = 3 := by omega
  rcases this with rfl | rfl | rfl | rfl
  · rw [if_neg (by decide), if_neg (by decide), if_neg (by decide)]
    unfold m_Model_isPersonLine_J45
    rw [if_pos (by decide)]
    exact hJ
  · rw [if_neg (by decide), if_pos (by decide)]
    unfold m_Model_isPersonLine_J40 m_Model_isPersonLine_J45
    rw [if_neg (by decide), if_pos (by decide)]
    exact hJ
  · rw [if_neg (by decide), if_neg (by decide), if_pos (by decide)]
    unfold m_Model_isPersonLine_J40 m_Model_isPersonLine_J45
    rw [if_neg (by decide), if_neg (by decide)]
    exact hJ
  · rw [if_neg (by decide), if_neg (by decide), if_neg (by decide)]
    unfold m_Model_isPersonLine_J45
    rw [if_neg (by decide), if_neg (by decide)]
    exact hJ
theorem zx_gd {r : Int32} {T : sy_St} {Q : Int32 → sy_St → Prop} (h : r = 0 ∨ r = 1) (q : Q r T) : zz_wp (sy_g (r = 0 ∨ r = 1) <| some (r, T)) Q := by
  rw [zz_g, zz_some]
  exact ⟨h, q⟩
theorem zx_fin_r {r : Int32} {T : sy_St} {t : Nat → Int32} {n : Nat} {D : zx_D} {x : Sum zx_F Nat} (h : zx_fin r T t n D x) : r = 0 ∨ r = 1 := by
  rcases h with ⟨_, _, h, _⟩ | ⟨_, _, h, _⟩
  · exact Or.inl h
  · exact Or.inr h
theorem zq_isPersonLine {T : sy_St} {t : Nat → Int32} {n s pn wn : Nat} {wf pf : Nat → Int32} {R : Bool × (Nat → Int32) × Bool × Int32} (hn : n ≤ 250) (ht : ∀ i, i < n → 0 ≤ t i) (hs : s < n) (hpn : pn ≤ 6) (h3 : T 392 3 = nI s) (h : zx_M T t n (s + 1) true (wn, wf, pn, pf, R)) : zz_wp (m_Model_isPersonLine T) (fun r T1 => zx_fm T T1 ∧ zx_lin r T1 t n (zx_bind (zx_person t n s pn pf) fun r => .inr (r.1, wn, wf, pn + 1, r.2, R))) := by
  have h10 : T 392 10 = nI pn := h.2.2.2.2.2.2.1
  unfold m_Model_isPersonLine zx_person
  rw [h10]
  by_cases h6 : pn = 6
  · rw [if_pos (by rw [h6]; rfl), if_pos h6, zz_c]
    refine zz_mono (zq_fails (k := 3) h3 (by omega)) (fun r V ⟨r0, f, y⟩ => ?_)
    exact zx_gd (Or.inl r0) ⟨f, Or.inl ⟨_, rfl, r0, y⟩⟩
  · rw [if_neg (show ¬ nI pn = 6 from fun q => h6 ((nI_eq (b := 6) (by omega) (by omega)).mp q)), if_neg h6, zz_b, show (5 : Int32) = nI 5 from rfl, pk_mul]
    obtain ⟨m, hF⟩ : ∃ m, sy_F = m + 1 + 1 + 1 + 1 + 1 := ⟨9995, rfl⟩
    rw [hF]
    have hpn2 : pn < 6 := by omega
    show zz_wp (m_Model_isPersonLine_B24 (sy_fix _ m_Model_isPersonLine_B24 (m + 1 + 1 + 1 + 1)) (nI (5 * pn)) (nI 0) T) _
    refine zq_pstep hn ht (by omega) hpn2 h (fun a T1 ha f1 M1 a1 b1 => ?_) (fun f T1 ha f1 y => ?_)
    rotate_left
    · rw [show zx_num t n 0 4 (s + 1) = .inl f from ha]
      exact ⟨f1, Or.inl ⟨f, rfl, rfl, y⟩⟩
    rw [show zx_num t n 0 4 (s + 1) = .inr a from ha, zx_bind_r]
    show zz_wp (m_Model_isPersonLine_B24 (sy_fix _ m_Model_isPersonLine_B24 (m + 1 + 1 + 1)) (nI (5 * pn)) (nI 1) T1) _
    refine zq_pstep hn ht (by omega) hpn2 M1 (fun b T2 hb f2 M2 a2 b2 => ?_) (fun f T2 hb f2 y => ?_)
    rotate_left
    · rw [show zx_num t n 1 20 a.2 = .inl f from hb]
      exact ⟨zx_fm_t f1 f2, Or.inl ⟨f, rfl, rfl, y⟩⟩
    rw [show zx_num t n 1 20 a.2 = .inr b from hb, zx_bind_r]
    show zz_wp (m_Model_isPersonLine_B24 (sy_fix _ m_Model_isPersonLine_B24 (m + 1 + 1)) (nI (5 * pn)) (nI 2) T2) _
    refine zq_pstep hn ht (by omega) hpn2 M2 (fun c T3 hc f3 M3 a3 b3 => ?_) (fun f T3 hc f3 y => ?_)
    rotate_left
    · rw [show zx_num t n 1 9 b.2 = .inl f from hc]
      exact ⟨zx_fm_t (zx_fm_t f1 f2) f3, Or.inl ⟨f, rfl, rfl, y⟩⟩
    rw [show zx_num t n 1 9 b.2 = .inr c from hc, zx_bind_r]
    show zz_wp (m_Model_isPersonLine_B24 (sy_fix _ m_Model_isPersonLine_B24 (m + 1)) (nI (5 * pn)) (nI 3) T3) _
    refine zq_pstep hn ht (by omega) hpn2 M3 (fun d T4 hd f4 M4 a4 b4 => ?_) (fun f T4 hd f4 y => ?_)
    rotate_left
    · rw [show zx_num t n 0 9 c.2 = .inl f from hd]
      exact ⟨zx_fm_t (zx_fm_t (zx_fm_t f1 f2) f3) f4, Or.inl ⟨f, rfl, rfl, y⟩⟩
    rw [show zx_num t n 0 9 c.2 = .inr d from hd, zx_bind_r]
    show zz_wp (m_Model_isPersonLine_B24 (sy_fix _ m_Model_isPersonLine_B24 m) (nI (5 * pn)) (nI 4) T4) _
    have f04 := zx_fm_t (zx_fm_t (zx_fm_t f1 f2) f3) f4
    generalize sy_fix (fun _ _ _ => none) m_Model_isPersonLine_B24 m = kk
    unfold m_Model_isPersonLine_B24
    rw [if_pos (by decide), zz_c]
    refine zz_mono (zq_isNumber hn ht M4) (fun r V ⟨f5, h5⟩ => ?_)
    rcases h5 with ⟨f, e1, r0, y⟩ | ⟨x, e1, r1, hM, e5, e3, ta⟩
    · rw [r0, if_pos rfl, zz_some, e1]
      exact ⟨zx_fm_t f04 f5, Or.inl ⟨f, rfl, rfl, y⟩⟩
    · rw [e1, zx_bind_r, r1, if_neg (by decide), e5]
      have hd2 := M4.2.2.1
      obtain ⟨⟨x1, x2⟩, -, -⟩ := zx_num_r hd2 e1
      have v10 : V 392 10 = nI pn := hM.2.2.2.2.2.2.1
      have hJ : ∀ fa : Int32, zz_wp (m_Model_isPersonLine_J153 (nI (5 * pn) + 4) fa V) (fun r T1 => zx_fm T T1 ∧ zx_lin r T1 t n (zx_bind (zx_bind (zx_end t n x.2) fun q => .inr (q, zx_pf pf pn a.1 b.1 c.1 d.1 fa)) fun r => .inr (r.1, wn, wf, pn + 1, r.2, R))) := by
        intro fa
        unfold m_Model_isPersonLine_J153
        rw [show (4 : Int32) = nI 4 from rfl, nI_add, zz_g]
        refine ⟨zz_in (by omega) (by omega), ?_⟩
        rw [zz_b, zz_b, zz_c, zz_up1 (show (392 : Nat) ≠ 395 by omega), v10, nI_1]
        simp only [zz_cl (show 5 * pn + 4 < 2147483648 by omega)]
        obtain ⟨W, hW⟩ : ∃ W, W = sy_up (sy_up V 395 (5 * pn + 4) fa) 392 10 (nI (pn + 1)) := ⟨_, rfl⟩
        rw [← hW]
        have e392 : ∀ j, W 392 j = if j = 10 then nI (pn + 1) else V 392 j := fun j => by rw [hW, zz_upo, zz_up1 (by omega)]
        have e395 : ∀ j, W 395 j = if j = 5 * pn + 4 then fa else V 395 j := fun j => by rw [hW, zz_up1 (by omega), zz_upo]
        have eo : ∀ i, i ≠ 392 → i ≠ 395 → W i = V i := fun i a b => by rw [hW, zz_up1 a, zz_up1 b]
        have fW : zx_fm V W := by rw [hW]; exact zx_fm_t (zx_fm_a (by omega)) (zx_fm_u (by omega))
        have hMW : zx_M W t n x.2 true (wn, wf, pn + 1, zx_pf pf pn a.1 b.1 c.1 d.1 fa, R) := by
          obtain ⟨⟨g1, g1b⟩, g2, g3, g4, d1, d2, d3, d4, d5, d6, d7, d8, d9⟩ := hM
          refine ⟨⟨by rw [e392, if_neg (by omega), g1], fun i hi => by rw [eo 393 (by omega) (by omega)]; exact g1b i hi⟩, by rw [e392, if_neg (by omega), g2], g3, by rw [e392, if_neg (by omega), g4], by rw [e392, if_neg (by omega), d1], fun i hi => by rw [eo 394 (by omega) (by omega)]; exact d2 i hi, by rw [e392, if_pos rfl], fun i hi => ?_, by rw [e392, if_neg (by omega), d5], by rw [e392, if_neg (by omega), d6], fun i hi => by rw [eo 396 (by omega) (by omega)]; exact d7 i hi, by rw [e392, if_neg (by omega), d8], by rw [e392, if_neg (by omega), d9]⟩
          simp only at hi ⊢
          rw [e395]
          have v4 : ∀ j, V 395 j = T4 395 j := fun j => ta 395 j (by omega)
          by_cases q4 : i = 5 * pn + 4
          · rw [if_pos q4, q4, zx_pf_4]
          · rw [if_neg q4, v4]
            by_cases q3 : i = 5 * pn + 3
            · rw [q3, zx_pf_3, a4]
            · by_cases q2 : i = 5 * pn + 2
              · rw [q2, zx_pf_2, b4 _ (by omega), a3]
              · by_cases q1 : i = 5 * pn + 1
                · rw [q1, zx_pf_1, b4 _ (by omega), b3 _ (by omega), a2]
                · by_cases q0 : i = 5 * pn
                  · rw [q0, zx_pf_0, b4 _ (by omega), b3 _ (by omega), b2 _ (by omega)]; exact a1
                  · rw [zx_pf_o (by omega), ← v4]; exact d4 i (by simp only; omega)
        refine zz_mono (zq_isEnd hn hMW) (fun r2 Z ⟨f6, h6⟩ => ?_)
        refine zx_gd (zx_fin_r h6) ⟨zx_fm_t (zx_fm_t (zx_fm_t f04 f5) fW) f6, ?_⟩
        rcases h6 with ⟨f, e1, r0, y⟩ | ⟨q, e1, r1, hM⟩
        · rw [e1]; exact Or.inl ⟨f, rfl, r0, y⟩
        · rw [e1]; exact Or.inr ⟨_, rfl, r1, hM⟩
      have hJ9 : zz_wp (m_Model_isPersonLine_J129 (nI (5 * pn)) V) (fun r T1 => zx_fm T T1 ∧ zx_lin r T1 t n (zx_bind (zx_bind (zx_end t n x.2) fun q => .inr (q, zx_pf pf pn a.1 b.1 c.1 d.1 (if x.1 = 9 then -1 else x.1))) fun r => .inr (r.1, wn, wf, pn + 1, r.2, R))) := by
        unfold m_Model_isPersonLine_J129
        rw [e5]
        by_cases h9 : x.1 = 9
        · rw [if_pos h9, if_pos h9]; exact hJ _
        · rw [if_neg h9, if_neg h9]; exact hJ _
      rw [v10]
      by_cases h9 : x.1 = 9
      · rw [if_pos h9, if_neg (fun q => q.1 h9)]
        exact hJ9
      · rw [if_neg h9]
        by_cases hl : x.1 < nI pn
        · rw [if_pos hl, if_neg (fun q => q.2 hl)]
          exact hJ9
        · rw [if_neg hl, if_pos ⟨h9, hl⟩, zz_c]
          have := zx_sk_b (t := t) hd2
          refine zz_mono (zq_fails (k := 2) e3 (by omega)) (fun r V ⟨r0, f, y⟩ => ?_)
          exact zx_gd (Or.inl r0) ⟨zx_fm_t (zx_fm_t f04 f5) f, Or.inl ⟨_, rfl, r0, y⟩⟩
theorem zq_wstep {kk : zt_1} {T : sy_St} {t : Nat → Int32} {n p k pn wn : Nat} {wf pf gf : Nat → Int32} {gt : Bool} {R : Bool × Int32} {Q : Int32 → sy_St → Prop} (hn : n ≤ 250) (ht : ∀ i, i < n → 0 ≤ t i) (hk : k < 3) (h : zx_M T t n p true (wn, wf, pn, pf, gt, gf, R))
    (k1 : ∀ x T1, zx_num t n 0 9 p = .inr x → zx_fm T T1 → zx_M T1 t n x.2 true (wn, wf, pn, pf, gt, upd gf k x.1, R) → zz_wp (kk (nI (k + 1)) T1) Q)
    (k0 : ∀ f T1, zx_num t n 0 9 p = .inl f → zx_fm T T1 → zx_Y T1 f → Q 0 T1) : zz_wp (m_Model_isWordLine_B20 kk (nI k) T) Q := by
  unfold m_Model_isWordLine_B20
  rw [if_neg (show ¬ (3 : Int32) ≤ nI k from nI_ge (b := 3) hk (by omega)), zz_c]
  refine zz_mono (zq_isNumber hn ht h) (fun r V ⟨f1, h1⟩ => ?_)
  rcases h1 with ⟨f, e1, r0, y⟩ | ⟨x, e1, r1, hM1, e5, -, ta1⟩
  · rw [r0, if_pos rfl, zz_some]
    exact k0 f V e1 f1 y
  · rw [r1, if_neg (by decide), zz_g]
    refine ⟨zz_in (by omega) (by omega), ?_⟩
    rw [zz_b, zz_b, nI_1, e5]
    simp only [zz_cl (show k < 2147483648 by omega)]
    refine k1 x (sy_up V 396 k x.1) e1 (zx_fm_t f1 (zx_fm_a (by omega))) ?_
    obtain ⟨⟨g1, g1b⟩, g2, g3, g4, d1, d2, d3, d4, d5, d6, d7, d8, d9⟩ := hM1
    refine ⟨⟨by rw [zz_up1 (by omega)]; exact g1, fun i hi => by rw [zz_up1 (by omega)]; exact g1b i hi⟩, by rw [zz_up1 (by omega)]; exact g2, g3, by rw [zz_up1 (by omega)]; exact g4, by rw [zz_up1 (by omega)]; exact d1, fun i hi => by rw [zz_up1 (by omega)]; exact d2 i hi, by rw [zz_up1 (by omega)]; exact d3, fun i hi => by rw [zz_up1 (by omega)]; exact d4 i hi, by rw [zz_up1 (by omega)]; exact d5, by rw [zz_up1 (by omega)]; exact d6, fun i hi => ?_, by rw [zz_up1 (by omega)]; exact d8, by rw [zz_up1 (by omega)]; exact d9⟩
    simp only
    rw [zz_upo]
    unfold upd
    by_cases q : i = k
    · rw [if_pos q, if_pos q]
    · rw [if_neg q, if_neg q]; exact d7 i hi
theorem zq_isWordLine {T : sy_St} {t : Nat → Int32} {n s pn wn : Nat} {wf pf gf : Nat → Int32} {gt : Bool} {R : Bool × Int32} (hn : n ≤ 250) (ht : ∀ i, i < n → 0 ≤ t i) (hs : s < n) (h3 : T 392 3 = nI s) (h : zx_M T t n (s + 1) true (wn, wf, pn, pf, gt, gf, R)) : zz_wp (m_Model_isWordLine T) (fun r T1 => zx_fm T T1 ∧ zx_lin r T1 t n (zx_bind (zx_words t n s gt) fun r => .inr (r.1, wn, wf, pn, pf, true, r.2, R))) := by
  have h15 : T 392 15 = (if gt = true then 1 else 0) := h.2.2.2.2.2.2.2.2.2.1
  unfold m_Model_isWordLine zx_words
  cases gt with
  | true =>
    rw [if_neg (by rw [h15]; decide), if_pos rfl, zz_c]
    refine zz_mono (zq_fails (k := 3) h3 (by omega)) (fun r V ⟨r0, f, y⟩ => ?_)
    exact zx_gd (Or.inl r0) ⟨f, Or.inl ⟨_, rfl, r0, y⟩⟩
  | false =>
    rw [if_pos (by rw [h15]; decide), if_neg (show ¬ ((false : Bool) = true) by decide), zz_b]
    obtain ⟨U, hU⟩ : ∃ U, U = sy_up T 392 15 1 := ⟨_, rfl⟩
    rw [← hU]
    have hMU : zx_M U t n (s + 1) true (wn, wf, pn, pf, true, gf, R) := by
      rw [hU]
      refine zx_M_up h (by omega) ?_
      obtain ⟨d1, d2, d3, d4, d5, d6, d7, d8, d9⟩ := h.2.2.2.2
      exact ⟨by rw [zz_upo, if_neg (by omega), d1], fun i hi => by rw [zz_up1 (by omega)]; exact d2 i hi, by rw [zz_upo, if_neg (by omega), d3], fun i hi => by rw [zz_up1 (by omega)]; exact d4 i hi, by rw [zz_upo, if_neg (by omega), d5], by rw [zz_upo, if_pos rfl]; rfl, fun i hi => by rw [zz_up1 (by omega)]; exact d7 i hi, by rw [zz_upo, if_neg (by omega), d8], by rw [zz_upo, if_neg (by omega), d9]⟩
    have hfU : zx_fm T U := by rw [hU]; exact zx_fm_u (by omega)
    obtain ⟨m, hF⟩ : ∃ m, sy_F = m + 1 + 1 + 1 + 1 := ⟨9996, rfl⟩
    rw [hF]
    show zz_wp (m_Model_isWordLine_B20 (sy_fix _ m_Model_isWordLine_B20 (m + 1 + 1 + 1)) (nI 0) U) _
    refine zq_wstep hn ht (by omega) hMU (fun a T1 ha f1 M1 => ?_) (fun f T1 ha f1 y => ?_)
    rotate_left
    · rw [ha]; exact ⟨zx_fm_t hfU f1, Or.inl ⟨f, rfl, rfl, y⟩⟩
    rw [ha, zx_bind_r]
    show zz_wp (m_Model_isWordLine_B20 (sy_fix _ m_Model_isWordLine_B20 (m + 1 + 1)) (nI 1) T1) _
    refine zq_wstep hn ht (by omega) M1 (fun b T2 hb f2 M2 => ?_) (fun f T2 hb f2 y => ?_)
    rotate_left
    · rw [hb]; exact ⟨zx_fm_t (zx_fm_t hfU f1) f2, Or.inl ⟨f, rfl, rfl, y⟩⟩
    rw [hb, zx_bind_r]
    show zz_wp (m_Model_isWordLine_B20 (sy_fix _ m_Model_isWordLine_B20 (m + 1)) (nI 2) T2) _
    refine zq_wstep hn ht (by omega) M2 (fun c T3 hc f3 M3 => ?_) (fun f T3 hc f3 y => ?_)
    rotate_left
    · rw [hc]; exact ⟨zx_fm_t (zx_fm_t (zx_fm_t hfU f1) f2) f3, Or.inl ⟨f, rfl, rfl, y⟩⟩
    rw [hc, zx_bind_r]
    show zz_wp (m_Model_isWordLine_B20 (sy_fix _ m_Model_isWordLine_B20 m) (nI 3) T3) _
    generalize sy_fix (fun _ _ => none) m_Model_isWordLine_B20 m = kk
    unfold m_Model_isWordLine_B20
    rw [if_pos (by decide), zz_c]
    have M4 : zx_M T3 t n c.2 true (wn, wf, pn, pf, true, zx_gf a.1 b.1 c.1, R) := by
      obtain ⟨g1, g2, g3, g4, d1, d2, d3, d4, d5, d6, d7, d8, d9⟩ := M3
      refine ⟨g1, g2, g3, g4, d1, d2, d3, d4, d5, d6, fun i hi => ?_, d8, d9⟩
      rw [d7 i hi]
      have : i = 0 ∨ i = 1 ∨ i = 2 := by omega
      rcases this with rfl | rfl | rfl <;> rfl
    refine zz_mono (zq_isEnd hn M4) (fun r2 Z ⟨f6, h6⟩ => ?_)
    refine zx_gd (zx_fin_r h6) ⟨zx_fm_t (zx_fm_t (zx_fm_t (zx_fm_t hfU f1) f2) f3) f6, ?_⟩
    rcases h6 with ⟨f, e1, r0, y⟩ | ⟨q, e1, r1, hM⟩
    · rw [e1]; exact Or.inl ⟨f, rfl, r0, y⟩
    · rw [e1]; exact Or.inr ⟨_, rfl, r1, hM⟩
theorem zq_isFruitLine {T : sy_St} {t : Nat → Int32} {n s pn wn : Nat} {wf pf gf : Nat → Int32} {gt ft : Bool} {fr : Int32} (hn : n ≤ 250) (ht : ∀ i, i < n → 0 ≤ t i) (hs : s < n) (h3 : T 392 3 = nI s) (h : zx_M T t n (s + 1) true (wn, wf, pn, pf, gt, gf, ft, fr)) : zz_wp (m_Model_isFruitLine T) (fun r T1 => zx_fm T T1 ∧ zx_lin r T1 t n (zx_bind (zx_fruit t n s ft) fun r => .inr (r.1, wn, wf, pn, pf, gt, gf, true, r.2))) := by
  have h16 : T 392 16 = (if ft = true then 1 else 0) := h.2.2.2.2.2.2.2.2.2.2.2.1
  unfold m_Model_isFruitLine zx_fruit
  cases ft with
  | true =>
    rw [if_neg (by rw [h16]; decide), if_pos rfl, zz_c]
    refine zz_mono (zq_fails (k := 3) h3 (by omega)) (fun r V ⟨r0, f, y⟩ => ?_)
    exact zx_gd (Or.inl r0) ⟨f, Or.inl ⟨_, rfl, r0, y⟩⟩
  | false =>
    rw [if_pos (by rw [h16]; decide), if_neg (show ¬ ((false : Bool) = true) by decide), zz_b, zz_c]
    obtain ⟨U, hU⟩ : ∃ U, U = sy_up T 392 16 1 := ⟨_, rfl⟩
    rw [← hU]
    have hMU : zx_M U t n (s + 1) true (wn, wf, pn, pf, gt, gf, true, fr) := by
      rw [hU]
      refine zx_M_up h (by omega) ?_
      obtain ⟨d1, d2, d3, d4, d5, d6, d7, d8, d9⟩ := h.2.2.2.2
      exact ⟨by rw [zz_upo, if_neg (by omega), d1], fun i hi => by rw [zz_up1 (by omega)]; exact d2 i hi, by rw [zz_upo, if_neg (by omega), d3], fun i hi => by rw [zz_up1 (by omega)]; exact d4 i hi, by rw [zz_upo, if_neg (by omega), d5], by rw [zz_upo, if_neg (by omega), d6], fun i hi => by rw [zz_up1 (by omega)]; exact d7 i hi, by rw [zz_upo, if_pos rfl]; rfl, by rw [zz_upo, if_neg (by omega), d9]⟩
    have hfU : zx_fm T U := by rw [hU]; exact zx_fm_u (by omega)
    refine zz_mono (zq_isNumber hn ht hMU) (fun r V ⟨f1, h1⟩ => ?_)
    rcases h1 with ⟨f, e1, r0, y⟩ | ⟨x, e1, r1, hM1, e5, -, ta1⟩
    · rw [r0, if_pos rfl, zz_some, e1]
      exact ⟨zx_fm_t hfU f1, Or.inl ⟨f, rfl, rfl, y⟩⟩
    · rw [r1, if_neg (by decide), zz_b, zz_c, e5, e1, zx_bind_r]
      have M2 : zx_M (sy_up V 392 13 x.1) t n x.2 true (wn, wf, pn, pf, gt, gf, true, x.1) := by
        refine zx_M_up hM1 (by omega) ?_
        obtain ⟨d1, d2, d3, d4, d5, d6, d7, d8, d9⟩ := hM1.2.2.2.2
        exact ⟨by rw [zz_upo, if_neg (by omega), d1], fun i hi => by rw [zz_up1 (by omega)]; exact d2 i hi, by rw [zz_upo, if_neg (by omega), d3], fun i hi => by rw [zz_up1 (by omega)]; exact d4 i hi, by rw [zz_upo, if_neg (by omega), d5], by rw [zz_upo, if_neg (by omega), d6], fun i hi => by rw [zz_up1 (by omega)]; exact d7 i hi, by rw [zz_upo, if_neg (by omega), d8], by rw [zz_upo, if_pos rfl]⟩
      refine zz_mono (zq_isEnd hn M2) (fun r2 Z ⟨f6, h6⟩ => ?_)
      refine zx_gd (zx_fin_r h6) ⟨zx_fm_t (zx_fm_t (zx_fm_t hfU f1) (zx_fm_u (by omega))) f6, ?_⟩
      rcases h6 with ⟨f, e1, r0, y⟩ | ⟨q, e1, r1, hM⟩
      · rw [e1]; exact Or.inl ⟨f, rfl, r0, y⟩
      · rw [e1]; exact Or.inr ⟨_, rfl, r1, hM⟩
