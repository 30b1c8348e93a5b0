/-! ===== the class's reader, clause by clause ===== -/
theorem zx_end_sk {t : Nat → Int32} {n p : Nat} (hp : p ≤ n) : zx_end t n (zx_sk t n p) = zx_end t n p := by
  unfold zx_end
  rw [zx_sk_i hp]
theorem zp_isNext {S : sy_St} {t : Nat → Int32} {n : Nat} {c : Int32} {D : zx_D} (hn : n ≤ 250) (y : Sum zx_F Nat) (h : zx_S S t n D y) : zz_wp (m_Reader_isNext c S) (fun r S1 => zx_fr S S1 ∧ zx_S S1 t n D (zx_bind y fun p => .inr (zx_sk t n p)) ∧ (∀ f, y = .inl f → r = 0) ∧ ∀ p, y = .inr p → p ≤ n ∧ r = if zx_sk t n p < n ∧ t (zx_sk t n p) = c then 1 else 0) := by
  unfold m_Reader_isNext
  rw [zz_c]
  cases y with
  | inl f =>
    have h : zx_X S t n f := h
    obtain ⟨h1, h2, h3, h4, ⟨p, hp, h5⟩, h6⟩ := id h
    refine zz_mono (zp_skip hn h1 h5 hp) (fun _ S1 g => ?_)
    rw [if_neg (by rw [g.1 35 3 (by omega), h2]; exact h3), zz_some]
    exact ⟨zx_at_fr g, zx_X_at h g (zx_sk_b hp).2.1, fun _ _ => rfl, fun p q => by cases q⟩
  | inr p =>
    have h : zx_C S t n p D := h
    obtain ⟨h1, h2, h3, hp, h5, h6⟩ := id h
    refine zz_mono (zp_skip hn h1 h5 hp) (fun _ S1 g => ?_)
    obtain ⟨s1, s2, -⟩ := zx_sk_b (t := t) hp
    have hC := zx_C_at h g s2
    rw [if_pos (by rw [g.1 35 3 (by omega), h2]), zz_i, hC.1.1, hC.2.2.2.2.1]
    refine ⟨fun hle => ?_, fun hnle => ?_⟩
    · have := nI_eq_of hle s2 (by omega)
      rw [zz_some]
      refine ⟨zx_at_fr g, hC, fun f q => (by cases q), fun p1 q => ?_⟩
      cases q
      exact ⟨hp, by rw [if_neg (fun q => by omega)]⟩
    · have hlt := nI_lt_of hnle (by omega) (by omega)
      rw [zz_b, zz_g]
      refine ⟨zz_in (by omega) (by omega), ?_⟩
      rw [zz_i]
      simp only [zz_cl (show zx_sk t n p < 2147483648 by omega)]
      rw [hC.1.2 _ hlt, zz_some, zz_some]
      refine ⟨fun hc => ⟨zx_at_fr g, hC, fun f q => (by cases q), fun p1 q => ?_⟩, fun hc => ⟨zx_at_fr g, hC, fun f q => (by cases q), fun p1 q => ?_⟩⟩
      · cases q; exact ⟨hp, by rw [if_pos ⟨hlt, hc⟩]⟩
      · cases q; exact ⟨hp, by rw [if_neg (fun q => hc q.2)]⟩
theorem zp_readEnd {S : sy_St} {t : Nat → Int32} {n : Nat} {D : zx_D} (hn : n ≤ 250) (y : Sum zx_F Nat) (h : zx_S S t n D y) : zz_wp (m_Reader_readEnd S) (fun _ S1 => zx_fr S S1 ∧ zx_S S1 t n D (zx_bind y (zx_end t n))) := by
  unfold m_Reader_readEnd
  rw [zz_c]
  refine zz_mono (zp_isNext hn y h) (fun r S1 ⟨f1, h1, r1, r2⟩ => ?_)
  cases y with
  | inl f =>
    have h1 : zx_X S1 t n f := h1
    rw [r1 f rfl, if_pos rfl, zp_fail_X h1]
    show zz_wp (some _) _
    rw [zz_some]
    exact ⟨f1, h1⟩
  | inr p =>
    have h1 : zx_C S1 t n (zx_sk t n p) D := h1
    obtain ⟨hp, hr⟩ := r2 p rfl
    rw [hr, zx_bind_r]
    unfold zx_end
    by_cases hc : zx_sk t n p < n ∧ t (zx_sk t n p) = 59
    · rw [if_pos hc, if_pos hc, if_neg (by decide), zz_b, zz_some, h1.2.2.2.2.1, nI_1]
      exact ⟨zx_fr_t f1 (zx_fr_u (by omega) (by omega)), zx_C_at h1 zx_at_up (by omega)⟩
    · rw [if_neg hc, if_neg hc, if_pos rfl, zz_c, h1.2.2.2.2.1]
      refine zz_mono (zp_fail_C h1 (by decide)) (fun _ S2 ⟨g1, g2⟩ => ?_)
      rw [zz_some]
      exact ⟨zx_fr_t f1 g1, g2⟩
theorem zp_isPerson37 {S : sy_St} {p : Int32} {M : Nat} (hM : S 37 8 = nI M) : m_Edge_isPerson 37 p S = some (if 0 ≤ p ∧ p < nI M then 1 else 0, S) := by
  unfold m_Edge_isPerson
  rw [hM]
  by_cases a : p < 0
  · rw [if_pos a, if_neg (fun q => by have := q.1; grind)]
  · by_cases b : nI M ≤ p
    · rw [if_neg a, if_pos b, if_neg (fun q => by have := q.2; grind)]
    · rw [if_neg a, if_neg b, if_pos ⟨by grind, by grind⟩]
theorem zp_isPersonX {S : sy_St} {p : Int32} : ∃ c, m_Edge_isPerson 37 p S = some (c, S) := by
  unfold m_Edge_isPerson
  by_cases a : p < 0
  · exact ⟨0, by rw [if_pos a]⟩
  · by_cases b : S 37 8 ≤ p
    · exact ⟨0, by rw [if_neg a, if_pos b]⟩
    · exact ⟨1, by rw [if_neg a, if_neg b]⟩
theorem zp_readFather {S : sy_St} {t : Nat → Int32} {n : Nat} {D : zx_D} (hn : n ≤ 250) (y : Sum zx_F Nat) (h : zx_S S t n D y) : zz_wp (m_Reader_readFather S) (fun r S1 => zx_fr S S1 ∧ zx_S S1 t n D (zx_bind y fun p => zx_bind (zx_num t n 0 9 p) fun x => if ¬ x.1 = 9 ∧ ¬ x.1 < nI D.2.2.1 then .inl (2, zx_sk t n p) else .inr x.2) ∧ ∀ p x, y = .inr p → zx_num t n 0 9 p = .inr x → r = if x.1 = 9 then -1 else x.1) := by
  unfold m_Reader_readFather
  rw [zz_c]
  refine zz_mono (zp_readNumber hn y h) (fun r S1 ⟨f1, h1, r1⟩ => ?_)
  have hX : ∀ f, zx_X S1 t n f → zz_wp (if r = 9 then (some ((-1), S1)) else (sy_c (m_Edge_isPerson 37 r S1) fun r6 S5 => if r6 = 0 then (sy_c (m_Reader_fail 2 (S5 35 6) S5) fun r10 S9 => some (r, S9)) else (some (r, S5)))) (fun _ S2 => zx_fr S S2 ∧ zx_X S2 t n f) := by
    intro f hf
    rw [zz_i]
    refine ⟨fun _ => zz_some.mpr ⟨f1, hf⟩, fun _ => ?_⟩
    obtain ⟨c, hc⟩ := zp_isPersonX (S := S1) (p := r)
    rw [zz_c, hc, zz_some, zz_i]
    refine ⟨fun _ => ?_, fun _ => zz_some.mpr ⟨f1, hf⟩⟩
    rw [zz_c, zp_fail_X hf, zz_some, zz_some]
    exact ⟨f1, hf⟩
  cases y with
  | inl f =>
    refine zz_mono (hX f h1) (fun _ S2 q => ⟨q.1, q.2, fun p x e => by cases e⟩)
  | inr p =>
    cases hx : zx_num t n 0 9 p with
    | inl f =>
      rw [zx_bind_r, hx] at h1
      refine zz_mono (hX f h1) (fun _ S2 q => ⟨q.1, ?_, fun p1 x e1 e2 => ?_⟩)
      · rw [zx_bind_r, hx]; exact q.2
      · cases e1; rw [hx] at e2; cases e2
    | inr x =>
      rw [zx_bind_r, hx] at h1
      have h1 : zx_C S1 t n x.2 D := h1
      obtain ⟨rr, r6⟩ := r1 p x rfl hx
      obtain ⟨⟨x1, x2⟩, -, -⟩ := zx_num_r (show p ≤ n from (show zx_C S t n p D from h).2.2.2.1) hx
      rw [rr, zx_bind_r, hx, zx_bind_r, zz_i]
      refine ⟨fun h9 => ?_, fun h9 => ?_⟩
      · rw [zz_some]
        refine ⟨f1, ?_, fun p1 y e1 e2 => ?_⟩
        · rw [if_neg (fun q => q.1 h9)]; exact h1
        · cases e1; rw [hx] at e2; cases e2; rw [if_pos h9]
      · rw [zz_c, zp_isPerson37 h1.2.2.2.2.2.2.2.2.1, zz_some, zz_i]
        refine ⟨fun hc => ?_, fun hc => ?_⟩
        · have hnl : ¬ x.1 < nI D.2.2.1 := fun q => by rw [if_pos ⟨x1, q⟩] at hc; exact absurd hc (by decide)
          rw [zz_c, r6]
          refine zz_mono (zp_fail_C h1 (by decide)) (fun _ S2 ⟨g1, g2⟩ => ?_)
          rw [zz_some, if_pos ⟨h9, hnl⟩]
          refine ⟨zx_fr_t f1 g1, g2, fun p1 y e1 e2 => ?_⟩
          cases e1; rw [hx] at e2; cases e2; rw [if_neg h9]
        · have hl : x.1 < nI D.2.2.1 := by
            by_cases q : x.1 < nI D.2.2.1
            · exact q
            · rw [if_neg (fun z => q z.2)] at hc; exact absurd rfl hc
          rw [zz_some, if_neg (fun q => q.2 hl)]
          refine ⟨f1, h1, fun p1 y e1 e2 => ?_⟩
          cases e1; rw [hx] at e2; cases e2; rw [if_neg h9]
theorem zp_addWeight_C {S : sy_St} {t : Nat → Int32} {n p wn : Nat} {w : Int32} {wf : Nat → Int32} {R : Nat × (Nat → Int32) × Bool × (Nat → Int32) × Bool × Int32} (h : zx_C S t n p (wn, wf, R)) (hw : wn < 12) : zz_wp (m_Edge_addWeight 37 w S) (fun _ S1 => zx_fr S S1 ∧ zx_C S1 t n p (wn + 1, upd wf wn w, R)) := by
  obtain ⟨h1, h2, h3, h4, h5, d1, d2, d3, d4, d5, d6, d7, d8, d9, d10⟩ := h
  simp only at d1 d2 d3 d4 d5 d6 d7 d8 d9 d10
  unfold m_Edge_addWeight
  rw [d1, if_pos (show nI wn < 12 from nI_lt (b := 12) hw (by omega)), zz_g, zz_b, zz_b, zz_some, zz_cl (by omega), zz_up1 (by omega), d1, nI_1]
  refine ⟨zz_in hw (by omega), zx_fr_t (zx_fr_u (by omega) (by omega)) (zx_fr_u (by omega) (by omega)), zx_tx_f (by simp [zz_up]) (by rw [zz_up1 (by omega), zz_up1 (by omega)]) h1, by simp [zz_up, h2], by simp [zz_up, h3], h4, by simp [zz_up, h5], by simp [zz_up], by simp only; omega, fun i hi => ?_, by simp [zz_up, d4], d5, fun q hq => ?_, by simp [zz_up, d7], fun i hi => ?_, by simp [zz_up, d9], by simp [zz_up, d10]⟩
  · simp only at hi ⊢
    rw [zz_up1 (by omega), zz_upo]
    unfold upd
    by_cases q : i = wn
    · rw [if_pos q, if_pos q]
    · rw [if_neg q, if_neg q]; exact d3 i (by omega)
  · simp only at hq ⊢
    rw [zz_up1 (by omega), zz_up1 (by omega), zz_up1 (by omega), zz_up1 (by omega), zz_up1 (by omega), zz_up1 (by omega), zz_up1 (by omega), zz_up1 (by omega), zz_up1 (by omega), zz_up1 (by omega)]
    exact d6 q hq
  · simp only
    rw [zz_up1 (by omega), zz_up1 (by omega)]
    exact d8 i hi
theorem zp_addWeight_X {S : sy_St} {t : Nat → Int32} {n : Nat} {w : Int32} {f : zx_F} (h : zx_X S t n f) : zz_wp (m_Edge_addWeight 37 w S) (fun _ S1 => zx_fr S S1 ∧ zx_X S1 t n f) := by
  obtain ⟨h1, h2, h3, h4, ⟨p, hp, h5⟩, wn, h6, h7⟩ := id h
  unfold m_Edge_addWeight
  rw [h7, zz_i]
  refine ⟨fun hlt => ?_, fun _ => zz_some.mpr ⟨zx_fr_r, h⟩⟩
  have hlt2 := (nI_ltI (b := 12) (by omega) (by omega)).mp hlt
  rw [zz_g, zz_b, zz_b, zz_some, zz_cl (by omega), zz_up1 (by omega), h7, nI_1]
  exact ⟨zz_in hlt2 (by omega), zx_fr_t (zx_fr_u (by omega) (by omega)) (zx_fr_u (by omega) (by omega)), zx_tx_f (by simp [zz_up]) (by rw [zz_up1 (by omega), zz_up1 (by omega)]) h1, by simp [zz_up, h2], h3, by simp [zz_up, h4], ⟨p, hp, by simp [zz_up, h5]⟩, wn + 1, by omega, by simp [zz_up]⟩
/-- where a clause leaves the reader -/
def zx_aft (S : sy_St) (t : Nat → Int32) (n : Nat) (x : Sum zx_F (Nat × zx_D)) : Prop := match x with
  | .inl f => zx_X S t n f
  | .inr y => zx_C S t n y.1 y.2
theorem zp_readWeights {S : sy_St} {t : Nat → Int32} {n p wn : Nat} {wf : Nat → Int32} {R : Nat × (Nat → Int32) × Bool × (Nat → Int32) × Bool × Int32} (hn : n ≤ 250) (hp : p < n) (h : zx_C S t n p (wn, wf, R)) : zz_wp (m_Reader_readWeights S) (fun _ S1 => zx_fr S S1 ∧ zx_aft S1 t n (if 0 < wn then .inl (3, p) else zx_bind (zx_wl t n 12 (p + 1) 0 wf) fun r => .inr (r.1, r.2.1, r.2.2, R))) := by
  have h37 : S 37 7 = nI wn := h.2.2.2.2.2.1
  have h12 : wn ≤ 12 := h.2.2.2.2.2.2.1
  unfold m_Reader_readWeights
  rw [h37, zz_i]
  refine ⟨fun hz => ?_, fun hz => ?_⟩
  · have hw0 : wn = 0 := by
      rcases Nat.eq_zero_or_pos wn with q | q
      · exact q
      · exact absurd hz (nI_nle q (by omega))
    subst hw0
    rw [if_neg (Nat.lt_irrefl 0)]
    obtain ⟨RES, hRES⟩ : ∃ RES, RES = zx_wl t n 12 (p + 1) 0 wf := ⟨_, rfl⟩
    rw [← hRES]
    refine zz_loopX (ap := fun (k : zt_2) (u : Int32 × Nat × sy_St) => k u.1 (nI u.2.1) u.2.2) (fun u => 12 - u.2.1) (fun u => zx_fr S u.2.2 ∧ u.2.1 ≤ 12 ∧ ((u.1 = 1 ∧ u.2.1 < 12 ∧ ∃ p wf2, p < n ∧ zx_C u.2.2 t n p (u.2.1, wf2, R) ∧ zx_wl t n (12 - u.2.1) (p + 1) u.2.1 wf2 = RES) ∨ ((u.1 = 0 ∨ u.2.1 = 12) ∧ ∃ (y : Sum zx_F Nat) (w : Nat) (wf2 : Nat → Int32), zx_S u.2.2 t n (w, wf2, R) y ∧ (zx_bind y fun p => zx_bind (zx_end t n p) fun q => .inr (q, w, wf2)) = RES))) ?_ sy_F (1, 0, S) (zz_F (by simp only; omega)) ⟨zx_fr_r, by simp only; omega, Or.inl ⟨rfl, by simp only; omega, p, wf, hp, h, hRES.symm⟩⟩
    rintro k ⟨more, i, T⟩ ⟨hfr, hi, hI⟩ hk
    simp only at hfr hi hI hk ⊢
    have hend : ((more = 0 ∨ i = 12) ∧ ∃ (y : Sum zx_F Nat) (w : Nat) (wf2 : Nat → Int32), zx_S T t n (w, wf2, R) y ∧ (zx_bind y fun p => zx_bind (zx_end t n p) fun q => .inr (q, w, wf2)) = RES) → zz_wp (sy_c (m_Reader_readEnd T) fun r7 S6 => some (0, S6)) (fun _ S1 => zx_fr S S1 ∧ zx_aft S1 t n (zx_bind RES fun r => .inr (r.1, r.2.1, r.2.2, R))) := by
      rintro ⟨-, y, w, wf2, hy, hR⟩
      rw [zz_c]
      refine zz_mono (zp_readEnd hn y hy) (fun _ S1 ⟨f1, h1⟩ => ?_)
      rw [zz_some, ← hR]
      refine ⟨zx_fr_t hfr f1, ?_⟩
      cases y with
      | inl f => exact h1
      | inr q =>
        rw [zx_bind_r] at h1 ⊢
        cases hq : zx_end t n q with
        | inl f => rw [hq] at h1; exact h1
        | inr q2 => rw [hq] at h1; exact h1
    unfold m_Reader_readWeights_B24
    rw [zz_i]
    rcases hI with ⟨hm, hi2, p1, wf2, hp1, hT, hR⟩ | hE
    · refine ⟨fun q => absurd q (nI_ge (b := 12) hi2 (by omega)), fun _ => ?_⟩
      rw [zz_i]
      refine ⟨fun q => absurd q (by rw [hm]; decide), fun _ => ?_⟩
      rw [zz_b, hT.2.2.2.2.1, nI_1, zz_c]
      have hT1 : zx_C (sy_up T 35 5 (nI (p1 + 1))) t n (p1 + 1) (i, wf2, R) := zx_C_at hT zx_at_up (by omega)
      refine zz_mono (zp_readNumber (S := sy_up T 35 5 (nI (p1 + 1))) hn (.inr (p1 + 1)) hT1) (fun r15 S14 ⟨f1, h1, r1⟩ => ?_)
      have f14 := zx_fr_t (zx_fr_t hfr (zx_fr_u (S := T) (k := 35) (j := 5) (v := nI (p1 + 1)) (by omega) (by omega))) f1
      rw [show 12 - i = (11 - i) + 1 by omega, zx_wl] at hR
      rw [zx_bind_r] at h1
      rw [zz_c]
      cases hx : zx_num t n 0 30 (p1 + 1) with
      | inl f =>
        rw [hx] at h1 hR
        have h1 : zx_X S14 t n f := h1
        refine zz_mono (zp_addWeight_X h1) (fun _ S17 ⟨f2, h2⟩ => ?_)
        rw [zz_c]
        refine zz_mono (zp_isNext (D := (i, wf2, R)) hn (.inl f) h2) (fun r21 S20 ⟨f3, h3, r3, _⟩ => ?_)
        rw [zz_b, nI_1, r3 f rfl]
        exact hk (0, i + 1, S20) ⟨zx_fr_t (zx_fr_t f14 f2) f3, by simp only; omega, Or.inr ⟨Or.inl rfl, .inl f, i, wf2, h3, hR⟩⟩ (by simp only; omega)
      | inr x =>
        rw [hx] at h1 hR
        have h1 : zx_C S14 t n x.2 (i, wf2, R) := h1
        obtain ⟨rr, -⟩ := r1 (p1 + 1) x rfl hx
        have hx2 := h1.2.2.2.1
        rw [zx_bind_r] at hR
        refine zz_mono (zp_addWeight_C h1 hi2) (fun _ S17 ⟨f2, h2⟩ => ?_)
        rw [zz_c]
        refine zz_mono (zp_isNext hn (.inr x.2) h2) (fun r21 S20 ⟨f3, h3, _, r3⟩ => ?_)
        have h3 : zx_C S20 t n (zx_sk t n x.2) (i + 1, upd wf2 i r15, R) := h3
        rw [rr] at h3
        have f20 := zx_fr_t (zx_fr_t f14 f2) f3
        obtain ⟨-, r3⟩ := r3 x.2 rfl
        rw [zz_b, nI_1]
        by_cases hc : zx_sk t n x.2 < n ∧ t (zx_sk t n x.2) = 44
        · rw [if_pos hc] at r3
          by_cases h11 : i + 1 < 12
          · rw [if_pos ⟨hc, h11⟩] at hR
            refine hk (r21, i + 1, S20) ⟨f20, by simp only; omega, Or.inl ⟨r3, h11, zx_sk t n x.2, _, hc.1, h3, ?_⟩⟩ (by simp only; omega)
            simp only
            rw [show 12 - (i + 1) = 11 - i by omega]
            exact hR
          · rw [if_neg (fun q => h11 q.2)] at hR
            refine hk (r21, i + 1, S20) ⟨f20, by simp only; omega, Or.inr ⟨Or.inr (by simp only; omega), .inr (zx_sk t n x.2), _, _, h3, ?_⟩⟩ (by simp only; omega)
            rw [zx_bind_r, zx_end_sk hx2]
            exact hR
        · rw [if_neg hc] at r3
          rw [if_neg (fun q => hc q.1)] at hR
          refine hk (r21, i + 1, S20) ⟨f20, by simp only; omega, Or.inr ⟨Or.inl r3, .inr (zx_sk t n x.2), _, _, h3, ?_⟩⟩ (by simp only; omega)
          rw [zx_bind_r, zx_end_sk hx2]
          exact hR
    · refine ⟨fun _ => hend hE, fun hn12 => ?_⟩
      rw [zz_i]
      refine ⟨fun _ => hend hE, fun hm => ?_⟩
      rcases hE.1 with q | q
      · exact absurd q hm
      · subst q; exact absurd (show (12 : Int32) ≤ nI 12 by decide) hn12
  · have hw0 : 0 < wn := by
      rcases Nat.eq_zero_or_pos wn with q | q
      · subst q; exact absurd (show nI 0 ≤ 0 by decide) hz
      · exact q
    rw [if_pos hw0, zz_c, h.2.2.2.2.1]
    refine zz_mono (zp_fail_C h (by decide)) (fun _ S1 ⟨f1, h1⟩ => ?_)
    rw [zz_some]
    exact ⟨f1, h1⟩
