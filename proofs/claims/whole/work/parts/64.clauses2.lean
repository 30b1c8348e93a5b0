/-! ===== the class's reader: people, words, fruit; a clause; the text ===== -/
theorem zp_addPerson_C {S : sy_St} {t : Nat → Int32} {n p wn pn : Nat} {wf pf : Nat → Int32} {a b c d f : Int32} {R : Bool × (Nat → Int32) × Bool × Int32} (h : zx_C S t n p (wn, wf, pn, pf, R)) (hw : pn < 6) : zz_wp (m_Edge_addPerson 37 a b c d f S) (fun _ S1 => zx_fr S S1 ∧ zx_C S1 t n p (wn, wf, pn + 1, zx_pf pf pn a b c d f, R)) := by
  obtain ⟨h1, h2, h3, h4, h5, d1, d2, d3, d4, d5, d6, d7, d8, d9, d10⟩ := h
  simp only at d1 d2 d3 d4 d5 d6 d7 d8 d9 d10
  have cl : (nI pn).toNatClampNeg = pn := zz_cl (by omega)
  have g : sy_in (nI pn) 6 = True := eq_true (zz_in hw (by omega))
  unfold m_Edge_addPerson
  rw [d4, if_pos (show nI pn < 6 from nI_lt (b := 6) hw (by omega))]
  simp only [zz_g, zz_b, zz_up1 (show (37 : Nat) ≠ 37 + 2 by omega), zz_up1 (show (37 : Nat) ≠ 37 + 3 by omega), zz_up1 (show (37 : Nat) ≠ 37 + 4 by omega), zz_up1 (show (37 : Nat) ≠ 37 + 5 by omega), zz_up1 (show (37 : Nat) ≠ 37 + 6 by omega), d4, cl, g, true_and, zz_some, nI_1]
  obtain ⟨T, hT⟩ : ∃ T, T = sy_up (sy_up (sy_up (sy_up (sy_up (sy_up S (37 + 2) pn a) (37 + 3) pn b) (37 + 4) pn c) (37 + 5) pn d) (37 + 6) pn f) 37 8 (nI (pn + 1)) := ⟨_, rfl⟩
  rw [← hT]
  have t0 : ∀ i, (i < 37 ∨ i = 38 ∨ 43 < i) → T i = S i := fun i hi => by rw [hT, zz_up1 (by omega), zz_up1 (by omega), zz_up1 (by omega), zz_up1 (by omega), zz_up1 (by omega), zz_up1 (by omega)]
  have t37 : ∀ j, T 37 j = if j = 8 then nI (pn + 1) else S 37 j := fun j => by rw [hT, zz_upo, zz_up1 (by omega), zz_up1 (by omega), zz_up1 (by omega), zz_up1 (by omega), zz_up1 (by omega)]
  have t39 : ∀ j, T 39 j = if j = pn then a else S 39 j := fun j => by rw [hT, zz_up1 (by omega), zz_up1 (by omega), zz_up1 (by omega), zz_up1 (by omega), zz_up1 (by omega), zz_upo]
  have t40 : ∀ j, T 40 j = if j = pn then b else S 40 j := fun j => by rw [hT, zz_up1 (by omega), zz_up1 (by omega), zz_up1 (by omega), zz_up1 (by omega), zz_upo, zz_up1 (by omega)]
  have t41 : ∀ j, T 41 j = if j = pn then c else S 41 j := fun j => by rw [hT, zz_up1 (by omega), zz_up1 (by omega), zz_up1 (by omega), zz_upo, zz_up1 (by omega), zz_up1 (by omega)]
  have t42 : ∀ j, T 42 j = if j = pn then d else S 42 j := fun j => by rw [hT, zz_up1 (by omega), zz_up1 (by omega), zz_upo, zz_up1 (by omega), zz_up1 (by omega), zz_up1 (by omega)]
  have t43 : ∀ j, T 43 j = if j = pn then f else S 43 j := fun j => by rw [hT, zz_up1 (by omega), zz_upo, zz_up1 (by omega), zz_up1 (by omega), zz_up1 (by omega), zz_up1 (by omega)]
  refine ⟨fun i hi => t0 i (by omega), zx_tx_f (by rw [t0 35 (by omega)]) (t0 36 (by omega)) h1, by rw [t0 35 (by omega), h2], by rw [t0 35 (by omega), h3], h4, by rw [t0 35 (by omega), h5], by rw [t37, if_neg (by omega), d1], d2, fun i hi => by rw [t0 38 (by omega)]; exact d3 i hi, by rw [t37, if_pos rfl], by simp only; omega, fun q hq => ?_, by rw [t0 35 (by omega), d7], fun i hi => by rw [t0 44 (by omega)]; exact d8 i hi, by rw [t0 35 (by omega), d9], by rw [t37, if_neg (by omega), d10]⟩
  simp only at hq ⊢
  rw [t39, t40, t41, t42, t43]
  by_cases z : q = pn
  · subst z
    rw [if_pos rfl, if_pos rfl, if_pos rfl, if_pos rfl, if_pos rfl, zx_pf_0, zx_pf_1, zx_pf_2, zx_pf_3, zx_pf_4]
    exact ⟨rfl, rfl, rfl, rfl, rfl⟩
  · rw [if_neg z, if_neg z, if_neg z, if_neg z, if_neg z, zx_pf_o (by omega), zx_pf_o (by omega), zx_pf_o (by omega), zx_pf_o (by omega), zx_pf_o (by omega)]
    exact d6 q (by omega)
theorem zp_readPerson {S : sy_St} {t : Nat → Int32} {n p wn pn : Nat} {wf pf : Nat → Int32} {R : Bool × (Nat → Int32) × Bool × Int32} (hn : n ≤ 250) (hp : p < n) (h : zx_C S t n p (wn, wf, pn, pf, R)) : zz_wp (m_Reader_readPerson S) (fun _ S1 => zx_fr S S1 ∧ zx_aft S1 t n (zx_bind (zx_person t n p pn pf) fun r => .inr (r.1, wn, wf, pn + 1, r.2, R))) := by
  have h8 : S 37 8 = nI pn := h.2.2.2.2.2.2.2.2.1
  have hpn : pn ≤ 6 := h.2.2.2.2.2.2.2.2.2.1
  unfold m_Reader_readPerson zx_person
  rw [h8, zz_i]
  refine ⟨fun hlt => ?_, fun hnlt => ?_⟩
  · have hpn2 := (nI_ltI (b := 6) (by omega) (by omega)).mp hlt
    rw [if_neg (show ¬ pn = 6 by omega), zz_b, h.2.2.2.2.1, nI_1, zz_c]
    have h2 : zx_C (sy_up S 35 5 (nI (p + 1))) t n (p + 1) (wn, wf, pn, pf, R) := zx_C_at h zx_at_up (by omega)
    have f2 : zx_fr S (sy_up S 35 5 (nI (p + 1))) := zx_fr_u (by omega) (by omega)
    refine zz_mono (zp_readNumber (S := sy_up S 35 5 (nI (p + 1))) hn (.inr (p + 1)) h2) (fun r4 S3 ⟨f3, h3, q3⟩ => ?_)
    rw [zz_c]
    refine zz_mono (zp_readNumber hn _ h3) (fun r7 S6 ⟨f6, h6, q6⟩ => ?_)
    rw [zz_c]
    refine zz_mono (zp_readNumber hn _ h6) (fun r10 S9 ⟨f9, h9, q9⟩ => ?_)
    rw [zz_c]
    refine zz_mono (zp_readNumber hn _ h9) (fun r13 S12 ⟨f12, h12, q12⟩ => ?_)
    rw [zz_c]
    refine zz_mono (zp_readFather hn _ h12) (fun r16 S15 ⟨f15, h15, q15⟩ => ?_)
    rw [zz_c]
    refine zz_mono (zp_readEnd hn _ h15) (fun _ S18 ⟨f18, h18⟩ => ?_)
    have fr18 := zx_fr_t (zx_fr_t (zx_fr_t (zx_fr_t (zx_fr_t (zx_fr_t f2 f3) f6) f9) f12) f15) f18
    have hX : ∀ f : zx_F, zx_X S18 t n f → zz_wp (if S18 35 3 = 0 then (sy_c (m_Edge_addPerson 37 r4 r7 r10 r13 r16 S18) fun r23 S22 => some (0, S22)) else (some (0, S18))) (fun _ S1 => zx_fr S S1 ∧ zx_X S1 t n f) := fun f hf => by
      rw [if_neg (by rw [hf.2.1]; exact hf.2.2.1), zz_some]
      exact ⟨fr18, hf⟩
    cases ha : zx_num t n 0 4 (p + 1) with
    | inl f => simp only [zx_bind_r, ha, zx_bind_l] at h18; exact hX f h18
    | inr a =>
    cases hb : zx_num t n 1 20 a.2 with
    | inl f => simp only [zx_bind_r, ha, hb, zx_bind_l] at h18 ⊢; exact hX f h18
    | inr b =>
    cases hc : zx_num t n 1 9 b.2 with
    | inl f => simp only [zx_bind_r, ha, hb, hc, zx_bind_l] at h18 ⊢; exact hX f h18
    | inr c =>
    cases hd : zx_num t n 0 9 c.2 with
    | inl f => simp only [zx_bind_r, ha, hb, hc, hd, zx_bind_l] at h18 ⊢; exact hX f h18
    | inr d =>
    cases hf : zx_num t n 0 9 d.2 with
    | inl f => simp only [zx_bind_r, ha, hb, hc, hd, hf, zx_bind_l] at h18 ⊢; exact hX f h18
    | inr f =>
    simp only [zx_bind_r, ha, hb, hc, hd, hf] at h18 q6 q9 q12 q15 ⊢
    by_cases hfa : ¬ f.1 = 9 ∧ ¬ f.1 < nI pn
    · rw [if_pos hfa] at h18 ⊢
      exact hX _ h18
    · rw [if_neg hfa] at h18 ⊢
      rw [zx_bind_r] at h18
      cases hq : zx_end t n f.2 with
      | inl g => rw [hq] at h18; exact hX _ h18
      | inr q =>
        rw [hq] at h18
        have h18 : zx_C S18 t n q (wn, wf, pn, pf, R) := h18
        rw [if_pos h18.2.1, zz_c]
        have e4 := (q3 _ _ rfl ha).1
        have e7 := (q6 _ _ rfl hb).1
        have e10 := (q9 _ _ rfl hc).1
        have e13 := (q12 _ _ rfl hd).1
        have e16 := q15 _ _ rfl hf
        refine zz_mono (zp_addPerson_C h18 hpn2) (fun _ S22 ⟨f22, h22⟩ => ?_)
        rw [zz_some]
        rw [e4, e7, e10, e13, e16] at h22
        exact ⟨zx_fr_t fr18 f22, h22⟩
  · have : pn = 6 := by
      rcases Nat.lt_or_ge pn 6 with q | q
      · exact absurd (nI_lt (b := 6) q (by omega)) hnlt
      · omega
    rw [if_pos this, zz_c, h.2.2.2.2.1]
    refine zz_mono (zp_fail_C h (by decide)) (fun _ S1 ⟨f1, h1⟩ => ?_)
    rw [zz_some]
    exact ⟨f1, h1⟩
theorem zp_setGoodness {S : sy_St} {a b c : Int32} : zz_wp (m_Edge_setGoodness 37 a b c S) (fun _ S1 => (∀ i, i ≠ 44 → S1 i = S i) ∧ ∀ i, i < 3 → S1 44 i = zx_gf a b c i) := by
  unfold m_Edge_setGoodness
  rw [zz_b, zz_b, zz_b, zz_some, show (0 : Int32).toNatClampNeg = 0 from rfl, show (1 : Int32).toNatClampNeg = 1 from rfl, show (2 : Int32).toNatClampNeg = 2 from rfl]
  refine ⟨fun i hi => by rw [zz_up1 (by omega), zz_up1 (by omega), zz_up1 (by omega)], fun i hi => ?_⟩
  rw [show 37 + 7 = 44 from rfl, zz_upo, zz_upo, zz_upo]
  unfold zx_gf
  have : i = 0 ∨ i = 1 ∨ i = 2 := by omega
  rcases this with rfl | rfl | rfl <;> rfl
theorem zx_X_44 {S S1 : sy_St} {t : Nat → Int32} {n : Nat} {f : zx_F} (g : ∀ i, i ≠ 44 → S1 i = S i) (h : zx_X S t n f) : zx_X S1 t n f := by
  obtain ⟨h1, h2, h3, h4, ⟨p, hp, h5⟩, w, h6, h7⟩ := h
  exact ⟨zx_tx_f (by rw [g 35 (by omega)]) (g 36 (by omega)) h1, by rw [g 35 (by omega), h2], h3, by rw [g 35 (by omega), h4], ⟨p, hp, by rw [g 35 (by omega), h5]⟩, w, h6, by rw [g 37 (by omega), h7]⟩
theorem zp_readGoodness {S : sy_St} {t : Nat → Int32} {n p wn pn : Nat} {wf pf gf : Nat → Int32} {gt : Bool} {R : Bool × Int32} (hn : n ≤ 250) (hp : p < n) (h : zx_C S t n p (wn, wf, pn, pf, gt, gf, R)) : zz_wp (m_Reader_readGoodness S) (fun _ S1 => zx_fr S S1 ∧ zx_aft S1 t n (zx_bind (zx_words t n p gt) fun r => .inr (r.1, wn, wf, pn, pf, true, r.2, R))) := by
  have h7 : S 35 7 = (if gt = true then 1 else 0) := h.2.2.2.2.2.2.2.2.2.2.2.1
  unfold m_Reader_readGoodness zx_words
  rw [h7]
  cases gt with
  | true =>
    rw [if_pos rfl, if_neg (by decide), if_pos rfl, zz_c, h.2.2.2.2.1]
    refine zz_mono (zp_fail_C h (by decide)) (fun _ S1 ⟨f1, h1⟩ => ?_)
    rw [zz_some]
    exact ⟨f1, h1⟩
  | false =>
    rw [if_pos (show (if (false : Bool) = true then (1 : Int32) else 0) = 0 by decide), if_neg (show ¬ ((false : Bool) = true) by decide), zz_b, zz_b, h.2.2.2.2.1, nI_1, zz_c]
    have h2 : zx_C (sy_up S 35 5 (nI (p + 1))) t n (p + 1) (wn, wf, pn, pf, false, gf, R) := zx_C_at h zx_at_up (by omega)
    obtain ⟨T, hT⟩ : ∃ T, T = sy_up (sy_up S 35 5 (nI (p + 1))) 35 7 1 := ⟨_, rfl⟩
    rw [← hT]
    have h3 : zx_C T t n (p + 1) (wn, wf, pn, pf, true, gf, R) := by
      obtain ⟨c1, c2, c3, c4, c5, d1, d2, d3, d4, d5, d6, d7, d8, d9, d10⟩ := h2
      have ne : ∀ i, i ≠ 35 → T i = sy_up S 35 5 (nI (p + 1)) i := fun i hi => by rw [hT, zz_up1 hi]
      have eq : ∀ j, T 35 j = if j = 7 then 1 else sy_up S 35 5 (nI (p + 1)) 35 j := fun j => by rw [hT, zz_upo]
      exact ⟨zx_tx_f (by rw [eq, if_neg (by omega)]) (ne 36 (by omega)) c1, by rw [eq, if_neg (by omega), c2], by rw [eq, if_neg (by omega), c3], c4, by rw [eq, if_neg (by omega), c5], by rw [ne 37 (by omega), d1], d2, fun i hi => by rw [ne 38 (by omega)]; exact d3 i hi, by rw [ne 37 (by omega), d4], d5, fun q hq => by rw [ne 39 (by omega), ne 40 (by omega), ne 41 (by omega), ne 42 (by omega), ne 43 (by omega)]; exact d6 q hq, by rw [eq, if_pos rfl]; rfl, fun i hi => by rw [ne 44 (by omega)]; exact d8 i hi, by rw [eq, if_neg (by omega), d9], by rw [ne 37 (by omega), d10]⟩
    have f3 : zx_fr S T := by rw [hT]; exact zx_fr_t (zx_fr_u (by omega) (by omega)) (zx_fr_u (by omega) (by omega))
    refine zz_mono (zp_readNumber hn (.inr (p + 1)) h3) (fun r5 S4 ⟨f4, h4, q4⟩ => ?_)
    rw [zz_c]
    refine zz_mono (zp_readNumber hn _ h4) (fun r8 S7 ⟨f7, h7, q7⟩ => ?_)
    rw [zz_c]
    refine zz_mono (zp_readNumber hn _ h7) (fun r11 S10 ⟨f10, h10, q10⟩ => ?_)
    rw [zz_c]
    refine zz_mono (zp_readEnd hn _ h10) (fun _ S13 ⟨f13, h13⟩ => ?_)
    rw [zz_c]
    refine zz_mono zp_setGoodness (fun _ S16 ⟨f16, g16⟩ => ?_)
    rw [zz_some]
    have fr16 : zx_fr S S16 := zx_fr_t (zx_fr_t (zx_fr_t (zx_fr_t (zx_fr_t f3 f4) f7) f10) f13) (fun i hi => f16 i (by omega))
    refine ⟨fr16, ?_⟩
    cases ha : zx_num t n 0 9 (p + 1) with
    | inl f => simp only [zx_bind_r, ha, zx_bind_l] at h13; exact zx_X_44 f16 h13
    | inr a =>
    cases hb : zx_num t n 0 9 a.2 with
    | inl f => simp only [zx_bind_r, ha, hb, zx_bind_l] at h13 ⊢; exact zx_X_44 f16 h13
    | inr b =>
    cases hc : zx_num t n 0 9 b.2 with
    | inl f => simp only [zx_bind_r, ha, hb, hc, zx_bind_l] at h13 ⊢; exact zx_X_44 f16 h13
    | inr c =>
    simp only [zx_bind_r, ha, hb, hc] at h13 q7 q10 ⊢
    cases hq : zx_end t n c.2 with
    | inl f => rw [hq] at h13; exact zx_X_44 f16 h13
    | inr q =>
      rw [hq] at h13
      have h13 : zx_C S13 t n q (wn, wf, pn, pf, true, gf, R) := h13
      have e5 := (q4 _ _ rfl ha).1
      have e8 := (q7 _ _ rfl hb).1
      have e11 := (q10 _ _ rfl hc).1
      rw [e5, e8, e11] at g16
      obtain ⟨c1, c2, c3, c4, c5, d1, d2, d3, d4, d5, d6, d7, d8, d9, d10⟩ := h13
      exact ⟨zx_tx_f (by rw [f16 35 (by omega)]) (f16 36 (by omega)) c1, by rw [f16 35 (by omega), c2], by rw [f16 35 (by omega), c3], c4, by rw [f16 35 (by omega), c5], by rw [f16 37 (by omega), d1], d2, fun i hi => by rw [f16 38 (by omega)]; exact d3 i hi, by rw [f16 37 (by omega), d4], d5, fun q hq => by rw [f16 39 (by omega), f16 40 (by omega), f16 41 (by omega), f16 42 (by omega), f16 43 (by omega)]; exact d6 q hq, by rw [f16 35 (by omega), d7], g16, by rw [f16 35 (by omega), d9], by rw [f16 37 (by omega), d10]⟩
theorem zp_readFruit {S : sy_St} {t : Nat → Int32} {n p wn pn : Nat} {wf pf gf : Nat → Int32} {gt ft : Bool} {fr : Int32} (hn : n ≤ 250) (hp : p < n) (h : zx_C S t n p (wn, wf, pn, pf, gt, gf, ft, fr)) : zz_wp (m_Reader_readFruit S) (fun _ S1 => zx_fr S S1 ∧ zx_aft S1 t n (zx_bind (zx_fruit t n p ft) fun r => .inr (r.1, wn, wf, pn, pf, gt, gf, true, r.2))) := by
  have h8 : S 35 8 = (if ft = true then 1 else 0) := h.2.2.2.2.2.2.2.2.2.2.2.2.2.1
  unfold m_Reader_readFruit zx_fruit
  rw [h8]
  cases ft with
  | true =>
    rw [if_pos rfl, if_neg (by decide), if_pos rfl, zz_c, h.2.2.2.2.1]
    refine zz_mono (zp_fail_C h (by decide)) (fun _ S1 ⟨f1, h1⟩ => ?_)
    rw [zz_some]
    exact ⟨f1, h1⟩
  | false =>
    rw [if_pos (show (if (false : Bool) = true then (1 : Int32) else 0) = 0 by decide), if_neg (show ¬ ((false : Bool) = true) by decide), zz_b, zz_b, h.2.2.2.2.1, nI_1, zz_c]
    have h2 : zx_C (sy_up S 35 5 (nI (p + 1))) t n (p + 1) (wn, wf, pn, pf, gt, gf, false, fr) := zx_C_at h zx_at_up (by omega)
    obtain ⟨T, hT⟩ : ∃ T, T = sy_up (sy_up S 35 5 (nI (p + 1))) 35 8 1 := ⟨_, rfl⟩
    rw [← hT]
    have h3 : zx_C T t n (p + 1) (wn, wf, pn, pf, gt, gf, true, fr) := by
      obtain ⟨c1, c2, c3, c4, c5, d1, d2, d3, d4, d5, d6, d7, d8, d9, d10⟩ := h2
      have ne : ∀ i, i ≠ 35 → T i = sy_up S 35 5 (nI (p + 1)) i := fun i hi => by rw [hT, zz_up1 hi]
      have eq : ∀ j, T 35 j = if j = 8 then 1 else sy_up S 35 5 (nI (p + 1)) 35 j := fun j => by rw [hT, zz_upo]
      exact ⟨zx_tx_f (by rw [eq, if_neg (by omega)]) (ne 36 (by omega)) c1, by rw [eq, if_neg (by omega), c2], by rw [eq, if_neg (by omega), c3], c4, by rw [eq, if_neg (by omega), c5], by rw [ne 37 (by omega), d1], d2, fun i hi => by rw [ne 38 (by omega)]; exact d3 i hi, by rw [ne 37 (by omega), d4], d5, fun q hq => by rw [ne 39 (by omega), ne 40 (by omega), ne 41 (by omega), ne 42 (by omega), ne 43 (by omega)]; exact d6 q hq, by rw [eq, if_neg (by omega), d7], fun i hi => by rw [ne 44 (by omega)]; exact d8 i hi, by rw [eq, if_pos rfl]; rfl, by rw [ne 37 (by omega), d10]⟩
    have f3 : zx_fr S T := by rw [hT]; exact zx_fr_t (zx_fr_u (by omega) (by omega)) (zx_fr_u (by omega) (by omega))
    refine zz_mono (zp_readNumber hn (.inr (p + 1)) h3) (fun r5 S4 ⟨f4, h4, q4⟩ => ?_)
    rw [zz_b, zz_c]
    obtain ⟨U, hU⟩ : ∃ U, U = sy_up S4 37 9 r5 := ⟨_, rfl⟩
    rw [← hU]
    have ne : ∀ i j, ¬ (i = 37 ∧ j = 9) → U i j = S4 i j := fun i j hi => by
      rw [hU, zz_up]
      by_cases a : i = 37
      · subst a; rw [if_pos rfl, if_neg (fun q => hi ⟨rfl, q⟩)]
      · rw [if_neg a]
    have e9 : U 37 9 = r5 := by rw [hU, zz_upo, if_pos rfl]
    have nf : ∀ i, i ≠ 37 → U i = S4 i := fun i hi => funext fun j => ne i j (by omega)
    have h5 : zx_S U t n (wn, wf, pn, pf, gt, gf, true, r5) (zx_bind (.inr (p + 1)) fun p => zx_bind (zx_num t n 0 99 p) fun x => .inr x.2) := by
      rw [zx_bind_r] at h4 ⊢
      cases ha : zx_num t n 0 99 (p + 1) with
      | inl f =>
        rw [ha] at h4
        obtain ⟨h1, h2, h3, h4, ⟨p, hp, h5⟩, w, h6, h7⟩ := (show zx_X S4 t n f from h4)
        exact ⟨zx_tx_f (by rw [nf 35 (by omega)]) (nf 36 (by omega)) h1, by rw [nf 35 (by omega), h2], h3, by rw [nf 35 (by omega), h4], ⟨p, hp, by rw [nf 35 (by omega), h5]⟩, w, h6, by rw [ne 37 7 (by omega), h7]⟩
      | inr a =>
        rw [ha] at h4
        obtain ⟨c1, c2, c3, c4, c5, d1, d2, d3, d4, d5, d6, d7, d8, d9, d10⟩ := (show zx_C S4 t n a.2 (wn, wf, pn, pf, gt, gf, true, fr) from h4)
        exact ⟨zx_tx_f (by rw [nf 35 (by omega)]) (nf 36 (by omega)) c1, by rw [nf 35 (by omega), c2], by rw [nf 35 (by omega), c3], c4, by rw [nf 35 (by omega), c5], by rw [ne 37 7 (by omega), d1], d2, fun i hi => by rw [nf 38 (by omega)]; exact d3 i hi, by rw [ne 37 8 (by omega), d4], d5, fun q hq => by rw [nf 39 (by omega), nf 40 (by omega), nf 41 (by omega), nf 42 (by omega), nf 43 (by omega)]; exact d6 q hq, by rw [nf 35 (by omega), d7], fun i hi => by rw [nf 44 (by omega)]; exact d8 i hi, by rw [nf 35 (by omega), d9], e9⟩
    refine zz_mono (zp_readEnd hn _ h5) (fun _ S8 ⟨f8, h8⟩ => ?_)
    rw [zz_some]
    refine ⟨zx_fr_t (zx_fr_t (zx_fr_t f3 f4) (fun i hi => nf i (by omega))) f8, ?_⟩
    cases ha : zx_num t n 0 99 (p + 1) with
    | inl f => simp only [zx_bind_r, ha, zx_bind_l] at h8; exact h8
    | inr a =>
      simp only [zx_bind_r, ha] at h8 ⊢
      rw [(q4 _ _ rfl ha).1] at h8
      cases hq : zx_end t n a.2 with
      | inl f => rw [hq] at h8; exact h8
      | inr q => rw [hq] at h8; exact h8
theorem zp_readClause {S : sy_St} {t : Nat → Int32} {n p : Nat} {D : zx_D} (hn : n ≤ 250) (hp : p < n) (h : zx_C S t n p D) : zz_wp (m_Reader_readClause S) (fun _ S1 => zx_fr S S1 ∧ zx_aft S1 t n (zx_clause t n p D)) := by
  obtain ⟨wn, wf, pn, pf, gt, gf, ft, fr⟩ := D
  have h37 : S 37 7 = nI wn := h.2.2.2.2.2.1
  have h12 : wn ≤ 12 := h.2.2.2.2.2.2.1
  have hbad : zz_wp (sy_c (m_Reader_fail 1 (S 35 5) S) fun r22 S21 => some (0, S21)) (fun _ S1 => zx_fr S S1 ∧ zx_aft S1 t n (.inl (1, p))) := by
    rw [zz_c, h.2.2.2.2.1]
    refine zz_mono (zp_fail_C h (by decide)) (fun _ S1 ⟨f1, h1⟩ => ?_)
    rw [zz_some]
    exact ⟨f1, h1⟩
  have hpass : ∀ {o : sy_R} {Q : Int32 → sy_St → Prop}, zz_wp o (fun _ S1 => Q 0 S1) → zz_wp (sy_c o fun _ S24 => some (0, S24)) Q := fun ho => by
    rw [zz_c]
    exact zz_mono ho (fun _ S1 q => zz_some.mpr q)
  unfold m_Reader_readClause zx_clause
  rw [zz_b, h.2.2.2.2.1, zz_g]
  refine ⟨zz_in (by omega) (by omega), ?_⟩
  rw [zz_b]
  simp only [zz_cl (show p < 2147483648 by omega)]
  rw [h.1.2 p hp, h37]
  by_cases c1 : t p = 119
  · rw [if_pos c1, if_pos c1]
    exact hpass (zp_readWeights hn hp h)
  · rw [if_neg c1, if_neg c1]
    by_cases c2 : wn = 0
    · rw [if_pos (by rw [c2]; rfl), if_pos c2]
      rw [h.2.2.2.2.1] at hbad
      exact hbad
    · rw [if_neg (nI_ne0 (by omega) (by omega)), if_neg c2]
      by_cases c3 : t p = 112
      · rw [if_pos c3, if_pos c3]
        exact hpass (zp_readPerson hn hp h)
      · rw [if_neg c3, if_neg c3]
        by_cases c4 : t p = 116
        · rw [if_pos c4, if_pos c4]
          exact hpass (zp_readGoodness hn hp h)
        · rw [if_neg c4, if_neg c4]
          by_cases c5 : t p = 102
          · rw [if_pos c5, if_pos c5]
            exact hpass (zp_readFruit hn hp h)
          · rw [if_neg c5, if_neg c5]
            rw [h.2.2.2.2.1] at hbad
            exact hbad
