/-! ===== the reference's lines ===== -/
theorem zq_fails {T : sy_St} {k : Int32} {a : Nat} (h3 : T 392 3 = nI a) (ha : a ≤ 250) : zz_wp (m_Model_fails k T) (fun r T1 => r = 0 ∧ zx_fm T T1 ∧ zx_Y T1 (k, a)) := by
  unfold m_Model_fails
  rw [zz_b, zz_b, zz_some]
  refine ⟨rfl, ⟨fun i b _ _ _ => by rw [zz_up1 b, zz_up1 b], fun j hj => ?_⟩, by simp [zz_up], by simp [zz_up, h3], ha⟩
  have a6 : ¬ j = 6 := by omega
  have a7 : ¬ j = 7 := by omega
  simp [zz_up, a6, a7]
theorem zq_isNumber {T : sy_St} {t : Nat → Int32} {n p : Nat} {lo hi : Int32} {hw : Bool} {D : zx_D} (hn : n ≤ 250) (ht : ∀ i, i < n → 0 ≤ t i) (h : zx_M T t n p hw D) : zz_wp (m_Model_isNumber lo hi T) (fun r T1 => zx_fm T T1 ∧ ((∃ f, zx_num t n lo hi p = .inl f ∧ r = 0 ∧ zx_Y T1 f) ∨ ∃ x, zx_num t n lo hi p = .inr x ∧ r = 1 ∧ zx_M T1 t n x.2 hw D ∧ T1 392 5 = x.1 ∧ T1 392 3 = nI (zx_sk t n p) ∧ zx_ta T T1)) := by
  have hp := h.2.2.1
  obtain ⟨s1, s2, -⟩ := zx_sk_b (t := t) hp
  unfold m_Model_isNumber
  rw [zz_c]
  refine zz_mono (zq_nextToken hn h) (fun _ U ⟨a, u3, hU⟩ => ?_)
  have hf1 : ∀ k : Int32, zx_num t n lo hi p = .inl (k, zx_sk t n p) → ∀ (K : Int32 → sy_St → sy_R), (∀ V, K 0 V = some (0, V)) → zz_wp (sy_c (m_Model_fails k U) fun r7 S6 => K r7 S6) (fun r T1 => zx_fm T T1 ∧ ((∃ f, zx_num t n lo hi p = .inl f ∧ r = 0 ∧ zx_Y T1 f) ∨ ∃ x, zx_num t n lo hi p = .inr x ∧ r = 1 ∧ zx_M T1 t n x.2 hw D ∧ T1 392 5 = x.1 ∧ T1 392 3 = nI (zx_sk t n p) ∧ zx_ta T T1)) := by
    intro k hk K hK
    rw [zz_c]
    refine zz_mono (zq_fails (k := k) u3 (by omega)) (fun r V ⟨r0, f, y⟩ => ?_)
    rw [r0, hK, zz_some]
    exact ⟨zx_fm_t (zx_ta_fm a) f, Or.inl ⟨_, hk, rfl, y⟩⟩
  have hg : ∀ V : sy_St, sy_g ((0 : Int32) = 0 ∨ (0 : Int32) = 1) (some ((0 : Int32), V)) = some (0, V) := fun V => by unfold sy_g; rw [if_pos (Or.inl rfl)]
  have hi0 : ∀ V : sy_St, (if (0 : Int32) = 0 then (some ((0 : Int32), V)) else (some (1, V)) : sy_R) = some (0, V) := fun V => if_pos rfl
  rcases hU with ⟨c1, c4, c2⟩ | ⟨c1, cd, c4, c5, c2⟩ | ⟨c1, cd, c4, c2⟩
  · rw [if_neg (by rw [c4]; decide), if_neg (by rw [c4]; decide)]
    exact hf1 1 (by unfold zx_num; rw [if_pos (zx_fg_0 (fun q => by omega))]) _ hg
  · have hfg := zx_fg_1 c1 cd
    have hfb := zx_fg_b (t := t) (n := n) (a := zx_sk t n p) s2
    have hne : ¬ zx_fg t n (zx_sk t n p) = zx_sk t n p := by omega
    by_cases h3 : zx_fg t n (zx_sk t n p) - zx_sk t n p ≤ 3
    · rw [if_pos h3] at c4
      rw [if_pos c4]
      unfold m_Model_isNumber_J27
      rw [if_pos c4, zz_c, c5]
      by_cases hr : lo ≤ zx_val t (zx_sk t n p) (zx_fg t n (zx_sk t n p) - zx_sk t n p) ∧ zx_val t (zx_sk t n p) (zx_fg t n (zx_sk t n p) - zx_sk t n p) ≤ hi
      · rw [zq_in_t hr.1 hr.2, zz_some, if_neg (by decide), zz_some]
        refine ⟨zx_ta_fm a, Or.inr ⟨(zx_val t (zx_sk t n p) (zx_fg t n (zx_sk t n p) - zx_sk t n p), zx_fg t n (zx_sk t n p)), ?_, rfl, zx_M_at h a hfb.2 c2, c5, u3, a⟩⟩
        unfold zx_num
        rw [if_neg hne, if_neg (fun q => by
          rcases q with q | q | q
          · omega
          · exact absurd hr.1 (by grind)
          · exact absurd hr.2 (by grind))]
      · rw [zq_in_f hr, zz_some, if_pos rfl]
        refine hf1 2 ?_ _ hi0
        unfold zx_num
        rw [if_neg hne, if_pos]
        by_cases q : zx_val t (zx_sk t n p) (zx_fg t n (zx_sk t n p) - zx_sk t n p) < lo
        · exact Or.inr (Or.inl q)
        · exact Or.inr (Or.inr (by grind))
    · rw [if_neg h3] at c4
      rw [if_neg (by rw [c4]; decide), if_pos c4]
      unfold m_Model_isNumber_J27
      rw [if_neg (by rw [c4]; decide)]
      refine hf1 2 ?_ _ hi0
      unfold zx_num
      rw [if_neg hne, if_pos (Or.inl (by omega))]
  · have h0 := ht _ c1
    have e1 : ¬ U 392 4 = -1 := fun q => by rw [c4] at q; rw [q] at h0; exact absurd h0 (by decide)
    have e3 : ¬ U 392 4 = -3 := fun q => by rw [c4] at q; rw [q] at h0; exact absurd h0 (by decide)
    rw [if_neg e1, if_neg e3]
    refine hf1 1 ?_ _ hg
    unfold zx_num
    rw [if_pos (zx_fg_0 (fun q => by have := q.2; rw [cd] at this; cases this))]
/-- what the next token is, where a ';' is looked for -/
def zx_semi (T : sy_St) (t : Nat → Int32) (n b : Nat) (D : zx_D) : Prop := T 392 3 = nI (zx_sk t n b) ∧ b ≤ n ∧ (((zx_sk t n b < n ∧ t (zx_sk t n b) = 59) ∧ T 392 4 = 59 ∧ zx_M T t n (zx_sk t n b + 1) true D) ∨ (¬ (zx_sk t n b < n ∧ t (zx_sk t n b) = 59) ∧ ¬ T 392 4 = 59))
theorem zx_semi_of {T U : sy_St} {t : Nat → Int32} {n p : Nat} {D : zx_D} (h : zx_M T t n p true D) (a : zx_ta T U) (u3 : U 392 3 = nI (zx_sk t n p)) (hU : (zx_sk t n p = n ∧ U 392 4 = -2 ∧ U 392 2 = nI n) ∨ (zx_sk t n p < n ∧ zx_dg (t (zx_sk t n p)) = true ∧ U 392 4 = (if zx_fg t n (zx_sk t n p) - zx_sk t n p ≤ 3 then -1 else -3) ∧ U 392 5 = zx_val t (zx_sk t n p) (zx_fg t n (zx_sk t n p) - zx_sk t n p) ∧ U 392 2 = nI (zx_fg t n (zx_sk t n p))) ∨ (zx_sk t n p < n ∧ zx_dg (t (zx_sk t n p)) = false ∧ U 392 4 = t (zx_sk t n p) ∧ U 392 2 = nI (zx_sk t n p + 1))) : zx_semi U t n p D := by
  have hp := h.2.2.1
  refine ⟨u3, hp, ?_⟩
  rcases hU with ⟨c1, c4, c2⟩ | ⟨c1, cd, c4, c5, c2⟩ | ⟨c1, cd, c4, c2⟩
  · exact Or.inr ⟨fun q => by omega, fun q => by rw [c4] at q; exact absurd q (by decide)⟩
  · refine Or.inr ⟨fun q => by rw [q.2] at cd; exact absurd cd (by decide), fun q => ?_⟩
    rw [c4] at q
    by_cases z : zx_fg t n (zx_sk t n p) - zx_sk t n p ≤ 3
    · rw [if_pos z] at q; exact absurd q (by decide)
    · rw [if_neg z] at q; exact absurd q (by decide)
  · by_cases z : t (zx_sk t n p) = 59
    · exact Or.inl ⟨⟨c1, z⟩, by rw [c4, z], zx_M_at h a (by omega) c2⟩
    · exact Or.inr ⟨fun q => z q.2, fun q => z (by rw [← c4, q])⟩
/-- how a line ends: with its ';', or at its fault -/
def zx_fin (r : Int32) (T : sy_St) (t : Nat → Int32) (n : Nat) (D : zx_D) (x : Sum zx_F Nat) : Prop := (∃ f, x = .inl f ∧ r = 0 ∧ zx_Y T f) ∨ ∃ q, x = .inr q ∧ r = 1 ∧ zx_M T t n q true D
theorem zx_semi_end {T : sy_St} {t : Nat → Int32} {n b : Nat} {D : zx_D} (hn : n ≤ 250) (h : zx_semi T t n b D) : zz_wp (if (T 392 4) = 59 then (some (1, T)) else (sy_c (m_Model_fails 1 T) fun r6 S5 => if r6 = 0 then (some (0, S5)) else (some (1, S5)))) (fun r T1 => zx_fm T T1 ∧ zx_fin r T1 t n D (zx_end t n b)) := by
  obtain ⟨h3, hb, h | h⟩ := h
  · rw [if_pos h.2.1, zz_some]
    refine ⟨zx_fm_r, Or.inr ⟨_, ?_, rfl, h.2.2⟩⟩
    unfold zx_end
    rw [if_pos h.1]
  · rw [if_neg h.2, zz_c]
    have := zx_sk_b (t := t) hb
    refine zz_mono (zq_fails (k := 1) h3 (by omega)) (fun r V ⟨r0, f, y⟩ => ?_)
    rw [r0, if_pos rfl, zz_some]
    refine ⟨f, Or.inl ⟨_, ?_, rfl, y⟩⟩
    unfold zx_end
    rw [if_neg h.1]
theorem zq_isEnd {T : sy_St} {t : Nat → Int32} {n p : Nat} {D : zx_D} (hn : n ≤ 250) (h : zx_M T t n p true D) : zz_wp (m_Model_isEnd T) (fun r T1 => zx_fm T T1 ∧ zx_fin r T1 t n D (zx_end t n p)) := by
  unfold m_Model_isEnd
  rw [zz_c]
  refine zz_mono (zq_nextToken hn h) (fun _ U ⟨a, u3, hU⟩ => ?_)
  refine zz_mono (zx_semi_end hn (zx_semi_of h a u3 hU)) (fun r V ⟨f, q⟩ => ⟨zx_fm_t (zx_ta_fm a) f, q⟩)
/-- what a line comes to -/
def zx_lin (r : Int32) (T : sy_St) (t : Nat → Int32) (n : Nat) (x : Sum zx_F (Nat × zx_D)) : Prop := (∃ f, x = .inl f ∧ r = 0 ∧ zx_Y T f) ∨ ∃ y, x = .inr y ∧ r = 1 ∧ zx_M T t n y.1 true y.2
theorem zx_M_up {T : sy_St} {t : Nat → Int32} {n p : Nat} {hw : Bool} {D : zx_D} {j : Nat} {v : Int32} {hw2 : Bool} {D2 : zx_D} (h : zx_M T t n p hw D) (hj : j = 8 ∨ j = 10 ∨ (13 ≤ j ∧ j ≤ 16)) (hd : zx_md (sy_up T 392 j v) hw2 D2) : zx_M (sy_up T 392 j v) t n p hw2 D2 := by
  obtain ⟨⟨h1, h1b⟩, h2, h3, h4, h5⟩ := h
  exact ⟨⟨by rw [zz_upo, if_neg (by omega)]; exact h1, fun i hi => by rw [zz_up1 (by omega)]; exact h1b i hi⟩, by rw [zz_upo, if_neg (by omega)]; exact h2, h3, by rw [zz_upo, if_neg (by omega)]; exact h4, hd⟩
theorem zx_fm_u {T : sy_St} {j : Nat} {v : Int32} (hj : 2 ≤ j ∧ j ≠ 9 ∧ j ≠ 11 ∧ j ≠ 12 ∧ j ≤ 16) : zx_fm T (sy_up T 392 j v) := ⟨fun i a _ _ _ => by rw [zz_up1 a], fun x hx => by rw [zz_upo, if_neg (by omega)]⟩
theorem zx_fm_a {T : sy_St} {k j : Nat} {v : Int32} (hk : k = 394 ∨ k = 395 ∨ k = 396) : zx_fm T (sy_up T k j v) := ⟨fun i _ b c d => by rw [zz_up1 (by omega)], fun x hx => by rw [zz_up1 (by omega)]⟩
theorem zq_isWeightLine {T : sy_St} {t : Nat → Int32} {n s : Nat} {wn : Nat} {wf : Nat → Int32} {R : Nat × (Nat → Int32) × Bool × (Nat → Int32) × Bool × Int32} (hn : n ≤ 250) (ht : ∀ i, i < n → 0 ≤ t i) (hs : s < n) (h3 : T 392 3 = nI s) (h : zx_M T t n (s + 1) (decide (0 < wn)) (wn, wf, R)) : zz_wp (m_Model_isWeightLine T) (fun r T1 => zx_fm T T1 ∧ zx_lin r T1 t n (if 0 < wn then .inl (3, s) else zx_bind (zx_wl t n 12 (s + 1) 0 wf) fun r => .inr (r.1, r.2.1, r.2.2, R))) := by
  have h14 : T 392 14 = (if (decide (0 < wn)) = true then 1 else 0) := h.2.2.2.2.2.2.2.2.1
  unfold m_Model_isWeightLine
  by_cases hw : 0 < wn
  · rw [if_neg (by rw [h14, if_pos (decide_eq_true hw)]; decide), if_pos hw, zz_c]
    refine zz_mono (zq_fails (k := 3) h3 (by omega)) (fun r V ⟨r0, f, y⟩ => ?_)
    rw [r0, zz_g, zz_some]
    exact ⟨Or.inl rfl, f, Or.inl ⟨_, rfl, rfl, y⟩⟩
  · rw [if_pos (by rw [h14, if_neg (by simpa using hw)]), if_neg hw, zz_b]
    have hw0 : wn = 0 := by omega
    subst hw0
    obtain ⟨U, hU⟩ : ∃ U, U = sy_up T 392 14 1 := ⟨_, rfl⟩
    rw [← hU]
    have hMU : zx_M U t n (s + 1) true (0, wf, R) := by
      rw [hU]
      refine zx_M_up h (by omega) ?_
      obtain ⟨d1, d2, d3, d4, d5, d6, d7, d8, d9⟩ := h.2.2.2.2
      exact ⟨by rw [zz_upo, if_neg (by omega), d1], fun i hi => absurd hi (Nat.not_lt_zero _), by rw [zz_upo, if_neg (by omega), d3], fun i hi => by rw [zz_up1 (by omega)]; exact d4 i hi, by rw [zz_upo, if_pos rfl]; rfl, by rw [zz_upo, if_neg (by omega), d6], fun i hi => by rw [zz_up1 (by omega)]; exact d7 i hi, by rw [zz_upo, if_neg (by omega), d8], by rw [zz_upo, if_neg (by omega), d9]⟩
    have hfU : zx_fm T U := by rw [hU]; exact zx_fm_u (by omega)
    obtain ⟨RES, hRES⟩ : ∃ RES, RES = zx_wl t n 12 (s + 1) 0 wf := ⟨_, rfl⟩
    rw [← hRES]
    refine zz_loopX (ap := fun (k : zt_1) (u : Int32 × Nat × sy_St) => k u.1 u.2.2) (fun u => u.2.1) (fun u => zx_fm T u.2.2 ∧ ((u.1 = 1 ∧ ∃ p wf2 m, u.2.1 = 12 - m + 1 ∧ m < 12 ∧ zx_M u.2.2 t n p true (m, wf2, R) ∧ zx_wl t n (12 - m) p m wf2 = RES) ∨ (u.1 = 0 ∧ ∃ b w wf2, zx_semi u.2.2 t n b (w, wf2, R) ∧ (zx_bind (zx_end t n b) fun q => .inr (q, w, wf2)) = RES))) ?_ sy_F (1, 13, U) (zz_F (by simp only; omega)) ⟨hfU, Or.inl ⟨rfl, s + 1, wf, 0, rfl, by omega, hMU, hRES.symm⟩⟩
    rintro k ⟨more, mu, V⟩ ⟨hfr, hI⟩ hk
    simp only at hfr hI hk ⊢
    unfold m_Model_isWeightLine_B20
    rcases hI with ⟨hm, p, wf2, m, hmu, hm12, hM, hR⟩ | ⟨hm, b, w, wf2, hS, hR⟩
    · rw [if_neg (by rw [hm]; decide), zz_c]
      rw [show 12 - m = (11 - m) + 1 by omega, zx_wl] at hR
      refine zz_mono (zq_isNumber hn ht hM) (fun r V1 ⟨f1, h1⟩ => ?_)
      rcases h1 with ⟨f, e1, r0, y⟩ | ⟨x, e1, r1, hM1, e5, -, ta1⟩
      · rw [r0, if_pos rfl, zz_some]
        rw [e1] at hR
        exact ⟨zx_fm_t hfr f1, Or.inl ⟨f, by rw [← hR]; rfl, rfl, y⟩⟩
      · rw [e1, zx_bind_r] at hR
        have h8 : V1 392 8 = nI m := hM1.2.2.2.2.1
        rw [r1, if_neg (by decide), h8, zz_g]
        refine ⟨zz_in hm12 (by omega), ?_⟩
        rw [zz_b, zz_b, zz_c]
        simp only [zz_cl (show m < 2147483648 by omega), e5]
        rw [zz_up1 (show (392 : Nat) ≠ 394 by omega), h8, nI_1]
        obtain ⟨V2, hV2⟩ : ∃ V2, V2 = sy_up (sy_up V1 394 m x.1) 392 8 (nI (m + 1)) := ⟨_, rfl⟩
        rw [← hV2]
        have e392 : ∀ j, V2 392 j = if j = 8 then nI (m + 1) else V1 392 j := fun j => by rw [hV2, zz_upo, zz_up1 (by omega)]
        have e394 : ∀ j, V2 394 j = if j = m then x.1 else V1 394 j := fun j => by rw [hV2, zz_up1 (by omega), zz_upo]
        have eo : ∀ i, i ≠ 392 → i ≠ 394 → V2 i = V1 i := fun i a b => by rw [hV2, zz_up1 a, zz_up1 b]
        have f2 : zx_fm V1 V2 := by rw [hV2]; exact zx_fm_t (zx_fm_a (by omega)) (zx_fm_u (by omega))
        have hM2 : zx_M V2 t n x.2 true (m + 1, upd wf2 m x.1, R) := by
          obtain ⟨⟨g1, g1b⟩, g2, g3, g4, d1, d2, d3, d4, d5, d6, d7, d8, d9⟩ := hM1
          refine ⟨⟨by rw [e392, if_neg (by omega), g1], fun i hi => by rw [eo 393 (by omega) (by omega)]; exact g1b i hi⟩, by rw [e392, if_neg (by omega), g2], g3, by rw [e392, if_neg (by omega), g4], by rw [e392, if_pos rfl], fun i hi => ?_, by rw [e392, if_neg (by omega), d3], fun i hi => by rw [eo 395 (by omega) (by omega)]; exact d4 i hi, by rw [e392, if_neg (by omega), d5], by rw [e392, if_neg (by omega), d6], fun i hi => by rw [eo 396 (by omega) (by omega)]; exact d7 i hi, by rw [e392, if_neg (by omega), d8], by rw [e392, if_neg (by omega), d9]⟩
          simp only at hi ⊢
          rw [e394]
          unfold upd
          by_cases q : i = m
          · rw [if_pos q, if_pos q]
          · rw [if_neg q, if_neg q]; exact d2 i (by simp only; omega)
        refine zz_mono (zq_nextToken hn hM2) (fun _ W ⟨a, w3, hW⟩ => ?_)
        have hsem := zx_semi_of hM2 a w3 hW
        have fW := zx_fm_t (zx_fm_t (zx_fm_t hfr f1) f2) (zx_ta_fm a)
        have w8 : W 392 8 = nI (m + 1) := by rw [a 392 8 (by omega), e392, if_pos rfl]
        rw [w8, zz_i]
        refine ⟨fun h44 => ?_, fun h44 => ?_⟩
        · have hc : (zx_sk t n x.2 < n ∧ t (zx_sk t n x.2) = 44) ∧ W 392 2 = nI (zx_sk t n x.2 + 1) := by
            rcases hW with ⟨c1, c4, c2⟩ | ⟨c1, cd, c4, c5, c2⟩ | ⟨c1, cd, c4, c2⟩
            · rw [c4] at h44; exact absurd h44 (by decide)
            · rw [c4] at h44
              by_cases z : zx_fg t n (zx_sk t n x.2) - zx_sk t n x.2 ≤ 3
              · rw [if_pos z] at h44; exact absurd h44 (by decide)
              · rw [if_neg z] at h44; exact absurd h44 (by decide)
            · exact ⟨⟨c1, by rw [← c4, h44]⟩, c2⟩
          rw [zz_i]
          refine ⟨fun h12 => ?_, fun h12 => ?_⟩
          · have := (nI_leI (a := 12) (by omega) (by omega)).mp h12
            rw [if_neg (fun q => by omega)] at hR
            exact hk (0, 0, W) ⟨fW, Or.inr ⟨rfl, x.2, m + 1, _, hsem, hR⟩⟩ (by simp only; omega)
          · have h12' : m + 1 < 12 := nI_lt_of (n := 12) h12 (by omega) (by omega)
            rw [if_pos ⟨hc.1, h12'⟩] at hR
            exact hk (1, 12 - (m + 1) + 1, W) ⟨fW, Or.inl ⟨rfl, zx_sk t n x.2 + 1, _, m + 1, rfl, h12', zx_M_at hM2 a (by omega) hc.2, by rw [show 12 - (m + 1) = 11 - m by omega]; exact hR⟩⟩ (by simp only; omega)
        · have hc : ¬ (zx_sk t n x.2 < n ∧ t (zx_sk t n x.2) = 44) := by
            intro q
            rcases hW with ⟨c1, c4, c2⟩ | ⟨c1, cd, c4, c5, c2⟩ | ⟨c1, cd, c4, c2⟩
            · omega
            · rw [q.2] at cd; exact absurd cd (by decide)
            · exact h44 (by rw [c4, q.2])
          rw [if_neg (fun q => hc q.1)] at hR
          exact hk (0, 0, W) ⟨fW, Or.inr ⟨rfl, x.2, m + 1, _, hsem, hR⟩⟩ (by simp only; omega)
    · rw [if_pos hm]
      refine zz_mono (zx_semi_end hn hS) (fun r V1 ⟨f1, hF⟩ => ⟨zx_fm_t hfr f1, ?_⟩)
      rw [← hR]
      rcases hF with ⟨f, e1, r0, y⟩ | ⟨q, e1, r1, hM⟩
      · rw [e1]; exact Or.inl ⟨f, rfl, r0, y⟩
      · rw [e1]; exact Or.inr ⟨_, rfl, r1, hM⟩
