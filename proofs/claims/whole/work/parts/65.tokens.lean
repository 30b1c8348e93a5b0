/-! ===== the class's text; the reference's tokens ===== -/
theorem zp_hasMore {S : sy_St} {t : Nat → Int32} {n : Nat} {D : zx_D} (hn : n ≤ 250) (y : Sum zx_F Nat) (h : zx_S S t n D y) : zz_wp (m_Reader_hasMore S) (fun r S1 => zx_fr S S1 ∧ zx_S S1 t n D (zx_bind y fun p => .inr (zx_sk t n p)) ∧ (∀ f, y = .inl f → r = 0) ∧ ∀ p, y = .inr p → r = if zx_sk t n p < n then 1 else 0) := by
  unfold m_Reader_hasMore
  rw [zz_c]
  cases y with
  | inl f =>
    have h : zx_X S t n f := h
    obtain ⟨h1, h2, h3, h4, ⟨p, hp, h5⟩, h6⟩ := id h
    refine zz_mono (zp_skip hn h1 h5 hp) (fun _ S1 g => ?_)
    rw [if_neg (by rw [g.1 35 3 (by omega), h2]; exact h3), zz_some]
    exact ⟨zx_at_fr g, zx_X_at h g (zx_sk_b hp).2.1, fun _ _ => rfl, fun p q => by cases q⟩
  | inr p =>
    have h : zx_C S t n p D := h
    obtain ⟨h1, h2, h3, hp, h5, h6⟩ := id h
    refine zz_mono (zp_skip hn h1 h5 hp) (fun _ S1 g => ?_)
    obtain ⟨s1, s2, -⟩ := zx_sk_b (t := t) hp
    have hC := zx_C_at h g s2
    rw [if_pos (by rw [g.1 35 3 (by omega), h2]), zz_i, hC.1.1, hC.2.2.2.2.1, zz_some, zz_some]
    refine ⟨fun hle => ⟨zx_at_fr g, hC, fun f q => (by cases q), fun p1 q => ?_⟩, fun hnle => ⟨zx_at_fr g, hC, fun f q => (by cases q), fun p1 q => ?_⟩⟩
    · have := nI_eq_of hle s2 (by omega)
      cases q
      rw [if_neg (fun q => by omega)]
    · have hlt := nI_lt_of hnle (by omega) (by omega)
      cases q
      rw [if_pos hlt]
def zx_D0 : zx_D := (0, fun _ => 0, 0, fun _ => 0, false, zx_gf 3 5 7, false, 9)
theorem zp_readText {S : sy_St} {t : Nat → Int32} {n : Nat} (hn : n ≤ 250) (h : zx_tx S t n) : zz_wp (m_Reader_readText S) (fun _ S1 => zx_fr S S1 ∧ S1 35 2 = 0 ∧ ((∃ f, zx_text t n (n + 1) 0 zx_D0 = .inl f ∧ S1 35 3 = f.1 ∧ f.1 ≠ 0 ∧ S1 35 4 = nI f.2) ∨ ∃ D, zx_text t n (n + 1) 0 zx_D0 = .inr D ∧ S1 35 3 = 0 ∧ S1 35 4 = -1 ∧ zx_dr S1 D)) := by
  unfold m_Reader_readText m_Edge_clear
  simp only [zz_b, zz_c, zz_some]
  refine zz_mono zp_setGoodness (fun _ S3 ⟨f3, g3⟩ => ?_)
  obtain ⟨T, hT⟩ : ∃ T, T = sy_up (sy_up (sy_up (sy_up (sy_up (sy_up S3 37 9 9) 35 3 0) 35 4 (-1)) 35 5 0) 35 7 0) 35 8 0 := ⟨_, rfl⟩
  rw [← hT]
  have e37 : ∀ j, T 37 j = if j = 9 then 9 else if j = 8 then 0 else if j = 7 then 0 else S 37 j := fun j => by
    rw [hT, zz_up1 (by omega), zz_up1 (by omega), zz_up1 (by omega), zz_up1 (by omega), zz_up1 (by omega), zz_upo, f3 37 (by omega), zz_upo, zz_upo]
  have e35 : ∀ j, T 35 j = if j = 8 then 0 else if j = 7 then 0 else if j = 5 then 0 else if j = 4 then -1 else if j = 3 then 0 else S 35 j := fun j => by
    rw [hT, zz_upo, zz_upo, zz_upo, zz_upo, zz_upo, zz_up1 (by omega), f3 35 (by omega), zz_up1 (by omega), zz_up1 (by omega)]
  have eo : ∀ i, i ≠ 35 → i ≠ 37 → i ≠ 44 → T i = S i := fun i a b c => by
    rw [hT, zz_up1 a, zz_up1 a, zz_up1 a, zz_up1 a, zz_up1 a, zz_up1 b, f3 i c, zz_up1 b, zz_up1 b]
  have e44 : T 44 = S3 44 := by rw [hT, zz_up1 (by omega), zz_up1 (by omega), zz_up1 (by omega), zz_up1 (by omega), zz_up1 (by omega), zz_up1 (by omega)]
  have hC : zx_C T t n 0 zx_D0 := ⟨⟨by rw [e35]; exact h.1, fun i hi => by rw [eo 36 (by omega) (by omega) (by omega)]; exact h.2 i hi⟩, by rw [e35]; rfl, by rw [e35]; rfl, Nat.zero_le _, by rw [e35]; rfl, by rw [e37]; rfl, by decide, fun i hi => absurd hi (Nat.not_lt_zero _), by rw [e37]; rfl, by decide, fun i hi => absurd hi (Nat.not_lt_zero _), by rw [e35]; rfl, fun i hi => by rw [e44]; exact g3 i hi, by rw [e35]; rfl, by rw [e37]; rfl⟩
  have fT : zx_fr S T := fun i hi => eo i (by omega) (by omega) (by omega)
  obtain ⟨RES, hRES⟩ : ∃ RES, RES = zx_text t n (n + 1) 0 zx_D0 := ⟨_, rfl⟩
  rw [← hRES]
  refine zz_loopX (ap := fun (k : zt_1) (u : Nat × sy_St) => k (nI u.1) u.2) (fun u => 250 - u.1) (fun u => u.1 ≤ 250 ∧ zx_fr S u.2 ∧ ((∃ f p D, u.1 ≤ p ∧ n - p < f ∧ zx_C u.2 t n p D ∧ zx_text t n f p D = RES) ∨ ∃ f, zx_X u.2 t n f ∧ RES = .inl f)) ?_ sy_F (0, T) (zz_F (by simp only; omega)) ⟨by simp only; omega, fT, Or.inl ⟨n + 1, 0, zx_D0, Nat.le_refl _, by omega, hC, hRES.symm⟩⟩
  rintro k ⟨i, U⟩ ⟨hi, hfr, hI⟩ hk
  simp only at hi hfr hI hk ⊢
  have hfin : ∀ V, zx_fr S V → ((∃ f, zx_X V t n f ∧ RES = .inl f) ∨ ∃ p D, zx_C V t n p D ∧ RES = .inr D) → zz_wp (sy_b (sy_up V 35 2 0) fun S10 => some (0, S10)) (fun _ S1 => zx_fr S S1 ∧ S1 35 2 = 0 ∧ ((∃ f, RES = .inl f ∧ S1 35 3 = f.1 ∧ f.1 ≠ 0 ∧ S1 35 4 = nI f.2) ∨ ∃ D, RES = .inr D ∧ S1 35 3 = 0 ∧ S1 35 4 = -1 ∧ zx_dr S1 D)) := by
    intro V hV hE
    rw [zz_b, zz_some]
    refine ⟨zx_fr_t hV (zx_fr_u (by omega) (by omega)), by rw [zz_upo, if_pos rfl], ?_⟩
    rcases hE with ⟨f, hf, hR⟩ | ⟨p, D, hD, hR⟩
    · exact Or.inl ⟨f, hR, by rw [zz_upo, if_neg (by omega)]; exact hf.2.1, hf.2.2.1, by rw [zz_upo, if_neg (by omega)]; exact hf.2.2.2.1⟩
    · refine Or.inr ⟨D, hR, by rw [zz_upo, if_neg (by omega)]; exact hD.2.1, by rw [zz_upo, if_neg (by omega)]; exact hD.2.2.1, zx_dr_f (fun a b d => ?_) hD.2.2.2.2.2⟩
      rw [zz_up]
      by_cases q : a = 35
      · subst q; rw [if_pos rfl, if_neg (by omega)]
      · rw [if_neg q]
  unfold m_Reader_readText_B34
  rw [zz_i]
  refine ⟨fun hle => hfin U hfr ?_, fun hnle => ?_⟩
  · have h250 : i = 250 := by
      rcases Nat.lt_or_ge i 250 with q | q
      · exact absurd hle (nI_ge (b := 250) q (by omega))
      · omega
    rcases hI with ⟨f, p, D, a1, a2, a3, a4⟩ | hI
    · have hpn := a3.2.2.2.1
      obtain ⟨f, rfl⟩ : ∃ g, f = g + 1 := ⟨f - 1, by omega⟩
      have := (zx_sk_b (t := t) hpn).1
      rw [zx_text, if_neg (by omega)] at a4
      exact Or.inr ⟨p, D, a3, a4.symm⟩
    · exact Or.inl hI
  · have hi2 : i < 250 := nI_lt_of (n := 250) hnle (by omega) (by omega)
    rw [zz_c]
    rcases hI with ⟨f, p, D, a1, a2, a3, a4⟩ | ⟨f, a1, a2⟩
    · obtain ⟨f, rfl⟩ : ∃ g, f = g + 1 := ⟨f - 1, by omega⟩
      have hpn := a3.2.2.2.1
      have hsk := zx_sk_b (t := t) hpn
      refine zz_mono (zp_hasMore hn (.inr p) a3) (fun r S11 ⟨f1, h1, _, r1⟩ => ?_)
      have h1 : zx_C S11 t n (zx_sk t n p) D := h1
      rw [r1 p rfl]
      rw [zx_text] at a4
      by_cases hlt : zx_sk t n p < n
      · rw [if_pos hlt] at a4
        rw [if_pos hlt, if_neg (by decide), zz_c]
        refine zz_mono (zp_readClause hn hlt h1) (fun _ S16 ⟨f2, h2⟩ => ?_)
        rw [zz_b, nI_1]
        have f16 := zx_fr_t (zx_fr_t hfr f1) f2
        cases hcl : zx_clause t n (zx_sk t n p) D with
        | inl g =>
          rw [hcl] at h2 a4
          exact hk (i + 1, S16) ⟨by simp only; omega, f16, Or.inr ⟨g, h2, a4.symm⟩⟩ (by simp only; omega)
        | inr r =>
          rw [hcl] at h2 a4
          have h2 : zx_C S16 t n r.1 r.2 := h2
          have hq : zx_sk t n p < r.1 := by
            have := h2.2.2.2.1
            have q := zx_clause_p hlt hcl
            exact q.1
          exact hk (i + 1, S16) ⟨by simp only; omega, f16, Or.inl ⟨f, r.1, r.2, by simp only; omega, by omega, h2, a4⟩⟩ (by simp only; omega)
      · rw [if_neg hlt] at a4
        rw [if_neg hlt, if_pos rfl]
        exact hfin S11 (zx_fr_t hfr f1) (Or.inr ⟨_, D, h1, a4.symm⟩)
    · refine zz_mono (zp_hasMore (D := zx_D0) hn (.inl f) a1) (fun r S11 ⟨f1, h1, r1, _⟩ => ?_)
      rw [r1 f rfl, if_pos rfl]
      exact hfin S11 (zx_fr_t hfr f1) (Or.inl ⟨f, h1, a2⟩)
/-! the reference -/
def zx_mt (T : sy_St) (t : Nat → Int32) (n : Nat) : Prop := T 392 0 = nI n ∧ ∀ i, i < n → T 393 i = t i
def zx_md (T : sy_St) (hw : Bool) (D : zx_D) : Prop := T 392 8 = nI D.1 ∧ (∀ i, i < D.1 → T 394 i = D.2.1 i) ∧ T 392 10 = nI D.2.2.1 ∧ (∀ i, i < 5 * D.2.2.1 → T 395 i = D.2.2.2.1 i) ∧ T 392 14 = (if hw = true then 1 else 0) ∧ T 392 15 = (if D.2.2.2.2.1 = true then 1 else 0) ∧ (∀ i, i < 3 → T 396 i = D.2.2.2.2.2.1 i) ∧ T 392 16 = (if D.2.2.2.2.2.2.1 = true then 1 else 0) ∧ T 392 13 = D.2.2.2.2.2.2.2
def zx_M (T : sy_St) (t : Nat → Int32) (n p : Nat) (hw : Bool) (D : zx_D) : Prop := zx_mt T t n ∧ T 392 6 = -1 ∧ p ≤ n ∧ T 392 2 = nI p ∧ zx_md T hw D
def zx_Y (T : sy_St) (f : zx_F) : Prop := T 392 7 = f.1 ∧ T 392 6 = nI f.2 ∧ f.2 ≤ 250
def zx_fm (T T1 : sy_St) : Prop := (∀ i, i ≠ 392 → i ≠ 394 → i ≠ 395 → i ≠ 396 → T1 i = T i) ∧ ∀ j, (j < 2 ∨ j = 9 ∨ j = 11 ∨ j = 12 ∨ 16 < j) → T1 392 j = T 392 j
theorem zx_fm_r {T : sy_St} : zx_fm T T := ⟨fun _ _ _ _ _ => rfl, fun _ _ => rfl⟩
theorem zx_fm_t {T T1 T2 : sy_St} (h : zx_fm T T1) (g : zx_fm T1 T2) : zx_fm T T2 := ⟨fun i a b c d => (g.1 i a b c d).trans (h.1 i a b c d), fun j a => (g.2 j a).trans (h.2 j a)⟩
def zx_ta (T T1 : sy_St) : Prop := ∀ i j, ¬ (i = 392 ∧ (j = 2 ∨ j = 3 ∨ j = 4 ∨ j = 5)) → T1 i j = T i j
theorem zx_ta_fm {T T1 : sy_St} (h : zx_ta T T1) : zx_fm T T1 := ⟨fun i a _ _ _ => funext fun j => h i j (by omega), fun j a => h 392 j (by omega)⟩
theorem zx_ta_t {T T1 T2 : sy_St} (h : zx_ta T T1) (g : zx_ta T1 T2) : zx_ta T T2 := fun i j a => (g i j a).trans (h i j a)
theorem zx_ta_r {T : sy_St} : zx_ta T T := fun _ _ _ => rfl
theorem zx_ta_u {T : sy_St} {j : Nat} {v : Int32} (h : j = 2 ∨ j = 3 ∨ j = 4 ∨ j = 5) : zx_ta T (sy_up T 392 j v) := fun i x a => by
  rw [zz_up]
  by_cases q : i = 392
  · subst q; rw [if_pos rfl, if_neg (fun z => a ⟨rfl, by omega⟩)]
  · rw [if_neg q]
theorem zx_md_f {T T1 : sy_St} {hw : Bool} {D : zx_D} (h : ∀ i j, ((i = 392 ∧ (j = 8 ∨ j = 10 ∨ (13 ≤ j ∧ j ≤ 16))) ∨ (394 ≤ i ∧ i ≤ 396)) → T1 i j = T i j) (d : zx_md T hw D) : zx_md T1 hw D := by
  obtain ⟨d1, d2, d3, d4, d5, d6, d7, d8, d9⟩ := d
  exact ⟨by rw [h 392 8 (by omega), d1], fun i hi => by rw [h 394 i (by omega)]; exact d2 i hi, by rw [h 392 10 (by omega), d3], fun i hi => by rw [h 395 i (by omega)]; exact d4 i hi, by rw [h 392 14 (by omega), d5], by rw [h 392 15 (by omega), d6], fun i hi => by rw [h 396 i (by omega)]; exact d7 i hi, by rw [h 392 16 (by omega), d8], by rw [h 392 13 (by omega), d9]⟩
theorem zx_M_at {T T1 : sy_St} {t : Nat → Int32} {n p q : Nat} {hw : Bool} {D : zx_D} (h : zx_M T t n p hw D) (g : zx_ta T T1) (hq : q ≤ n) (g2 : T1 392 2 = nI q) : zx_M T1 t n q hw D := by
  obtain ⟨h1, h2, h3, h4, h5⟩ := h
  exact ⟨⟨by rw [g 392 0 (by omega), h1.1], fun i hi => by rw [g 393 i (by omega)]; exact h1.2 i hi⟩, by rw [g 392 6 (by omega), h2], hq, g2, zx_md_f (fun i j a => g i j (by omega)) h5⟩
theorem zq_nextToken {T : sy_St} {t : Nat → Int32} {n p : Nat} {hw : Bool} {D : zx_D} (hn : n ≤ 250) (h : zx_M T t n p hw D) : zz_wp (m_Model_nextToken T) (fun _ T1 => zx_ta T T1 ∧ T1 392 3 = nI (zx_sk t n p) ∧ ((zx_sk t n p = n ∧ T1 392 4 = -2 ∧ T1 392 2 = nI n) ∨ (zx_sk t n p < n ∧ zx_dg (t (zx_sk t n p)) = true ∧ T1 392 4 = (if zx_fg t n (zx_sk t n p) - zx_sk t n p ≤ 3 then -1 else -3) ∧ T1 392 5 = zx_val t (zx_sk t n p) (zx_fg t n (zx_sk t n p) - zx_sk t n p) ∧ T1 392 2 = nI (zx_fg t n (zx_sk t n p))) ∨ (zx_sk t n p < n ∧ zx_dg (t (zx_sk t n p)) = false ∧ T1 392 4 = t (zx_sk t n p) ∧ T1 392 2 = nI (zx_sk t n p + 1)))) := by
  obtain ⟨⟨x0, xt⟩, -, hp, h2, -⟩ := h
  unfold m_Model_nextToken
  refine zz_loopX (ap := fun (k : sy_St → sy_R) (u : Nat × sy_St) => k u.2) (fun u => n - u.1) (fun u => u.1 ≤ n ∧ zx_ta T u.2 ∧ u.2 392 2 = nI u.1 ∧ zx_sk t n u.1 = zx_sk t n p) ?_ sy_F (p, T) (zz_F (by simp only; omega)) ⟨hp, zx_ta_r, h2, rfl⟩
  rintro k ⟨i, U⟩ ⟨hi, hU, hU2, hs⟩ hk
  simp only at hi hU hU2 hs hk ⊢
  have u0 : U 392 0 = nI n := by rw [hU 392 0 (by omega), x0]
  have ut : ∀ j, j < n → U 393 j = t j := fun j hj => by rw [hU 393 j (by omega), xt j hj]
  have cin : m_Model_in = m_Model_in := rfl
  have hdgt : ∀ (x : Int32) (V : sy_St), m_Model_in x 48 57 V = some (if zx_dg x = true then 1 else 0, V) := fun x V => by
    unfold zx_dg
    by_cases q : 48 ≤ x ∧ x ≤ 57
    · rw [zq_in_t q.1 q.2, if_pos (by simp [q])]
    · rw [zq_in_f q, if_neg (by simp; grind)]
  have hJ : zx_sk t n i = i → zz_wp (m_Model_nextToken_J38 U) (fun _ T1 => zx_ta T T1 ∧ T1 392 3 = nI (zx_sk t n p) ∧ ((zx_sk t n p = n ∧ T1 392 4 = -2 ∧ T1 392 2 = nI n) ∨ (zx_sk t n p < n ∧ zx_dg (t (zx_sk t n p)) = true ∧ T1 392 4 = (if zx_fg t n (zx_sk t n p) - zx_sk t n p ≤ 3 then -1 else -3) ∧ T1 392 5 = zx_val t (zx_sk t n p) (zx_fg t n (zx_sk t n p) - zx_sk t n p) ∧ T1 392 2 = nI (zx_fg t n (zx_sk t n p))) ∨ (zx_sk t n p < n ∧ zx_dg (t (zx_sk t n p)) = false ∧ T1 392 4 = t (zx_sk t n p) ∧ T1 392 2 = nI (zx_sk t n p + 1)))) := by
    intro he
    have hsp : zx_sk t n p = i := by rw [← hs, he]
    rw [hsp]
    unfold m_Model_nextToken_J38
    rw [zz_b, zz_b, hU2]
    obtain ⟨V, hV⟩ : ∃ V, V = sy_up (sy_up U 392 3 (nI i)) 392 5 0 := ⟨_, rfl⟩
    rw [← hV]
    have aV : zx_ta T V := by rw [hV]; exact zx_ta_t (zx_ta_t hU (zx_ta_u (by omega))) (zx_ta_u (by omega))
    have v2 : V 392 2 = nI i := by rw [hV]; simp [zz_up, hU2]
    have v3 : V 392 3 = nI i := by rw [hV]; simp [zz_up]
    have v5 : V 392 5 = 0 := by rw [hV]; simp [zz_up]
    have v0 : V 392 0 = nI n := by rw [aV 392 0 (by omega), x0]
    have vt : ∀ j, j < n → V 393 j = t j := fun j hj => by rw [aV 393 j (by omega), xt j hj]
    rw [v2, v0, zz_i]
    refine ⟨fun hin => ?_, fun hin => ?_⟩
    · have : i = n := (nI_eq (by omega) (by omega)).mp hin
      rw [zz_b, zz_some]
      refine ⟨zx_ta_t aV (zx_ta_u (by omega)), by simp [zz_up, v3], Or.inl ⟨this, by simp [zz_up], by simp [zz_up, v2, this]⟩⟩
    · have hlt : i < n := by
        rcases Nat.lt_or_ge i n with q | q
        · exact q
        · exact absurd (by rw [show i = n by omega]) hin
      rw [zz_b, zz_g, zz_c]
      refine ⟨zz_in (by omega) (by omega), ?_⟩
      have ci : (nI i).toNatClampNeg = i := zz_cl (by omega)
      rw [show V 393 (nI i).toNatClampNeg = t i by rw [ci]; exact vt i hlt, hdgt, zz_some]
      by_cases hd : zx_dg (t i) = true
      · rw [if_pos hd, if_neg (by decide)]
        have hfb := zx_fg_b (t := t) (n := n) (a := i) (by omega)
        refine zz_loopX (ap := fun (k : sy_St → sy_R) (u : Nat × sy_St) => k u.2) (fun u => n - u.1) (fun u => i ≤ u.1 ∧ u.1 ≤ n ∧ zx_fg t n u.1 = zx_fg t n i ∧ zx_ta T u.2 ∧ u.2 392 2 = nI u.1 ∧ u.2 392 3 = nI i ∧ u.2 392 5 = zx_val t i (u.1 - i)) ?_ sy_F (i, V) (zz_F (by simp only; omega)) ⟨Nat.le_refl _, by simp only; omega, rfl, aV, v2, v3, by simp only [Nat.sub_self]; exact v5⟩
        rintro kk ⟨j, W⟩ ⟨hij, hjn, hfj, aW, w2, w3, w5⟩ hkk
        simp only at hij hjn hfj aW w2 w3 w5 hkk ⊢
        have w0 : W 392 0 = nI n := by rw [aW 392 0 (by omega), x0]
        have wt : ∀ y, y < n → W 393 y = t y := fun y hy => by rw [aW 393 y (by omega), xt y hy]
        have hend : zx_fg t n j = j → zz_wp (m_Model_nextToken_J177 W) (fun _ T1 => zx_ta T T1 ∧ T1 392 3 = nI i ∧ ((i = n ∧ T1 392 4 = -2 ∧ T1 392 2 = nI n) ∨ (i < n ∧ zx_dg (t i) = true ∧ T1 392 4 = (if zx_fg t n i - i ≤ 3 then -1 else -3) ∧ T1 392 5 = zx_val t i (zx_fg t n i - i) ∧ T1 392 2 = nI (zx_fg t n i)) ∨ (i < n ∧ zx_dg (t i) = false ∧ T1 392 4 = t i ∧ T1 392 2 = nI (i + 1)))) := by
          intro he2
          have hfs : zx_fg t n i = j := by rw [← hfj, he2]
          rw [hfs]
          unfold m_Model_nextToken_J177
          rw [w2, w3, pk_sub hij, zz_i]
          refine ⟨fun h3 => ?_, fun h3 => ?_⟩
          · have := (nI_leI (b := 3) (by omega) (by omega)).mp h3
            rw [zz_b, zz_some]
            exact ⟨zx_ta_t aW (zx_ta_u (by omega)), by simp [zz_up, w3], Or.inr (Or.inl ⟨hlt, hd, by simp [zz_up, this], by simp [zz_up, w5], by simp [zz_up, w2]⟩)⟩
          · have : ¬ j - i ≤ 3 := fun q => h3 (nI_le (b := 3) q (by omega))
            rw [zz_b, zz_some]
            exact ⟨zx_ta_t aW (zx_ta_u (by omega)), by simp [zz_up, w3], Or.inr (Or.inl ⟨hlt, hd, by simp only [zz_up, if_true, if_neg this], by simp [zz_up, w5], by simp [zz_up, w2]⟩)⟩
        unfold m_Model_nextToken_B90
        rw [zz_i, w0, w2]
        refine ⟨fun hle => ?_, fun hnle => ?_⟩
        · have := nI_eq_of hle hjn (by omega)
          subst this
          exact hend (zx_fg_0 (fun q => by omega))
        · have hj2 := nI_lt_of hnle (by omega) (by omega)
          have cj : (nI j).toNatClampNeg = j := zz_cl (by omega)
          rw [zz_b, zz_g, zz_c]
          refine ⟨zz_in (by omega) (by omega), ?_⟩
          rw [show W 393 (nI j).toNatClampNeg = t j by rw [cj]; exact wt j hj2, hdgt, zz_some]
          by_cases hdj : zx_dg (t j) = true
          · rw [if_pos hdj, if_neg (by decide)]
            have hfg1 : zx_fg t n (j + 1) = zx_fg t n i := by rw [← hfj]; exact (zx_ru_1 hj2 hdj).symm
            have hvs : zx_val t i (j + 1 - i) = if j - i < 3 then zx_val t i (j - i) * 10 + t j - 48 else zx_val t i (j - i) := by
              rw [show j + 1 - i = (j - i) + 1 by omega, zx_val, show i + (j - i) = j by omega]
            rw [w2, w3, pk_sub hij, zz_i]
            refine ⟨fun h3 => ?_, fun h3 => ?_⟩
            · have := (nI_leI (a := 3) (by omega) (by omega)).mp h3
              rw [zz_b, zz_b]
              have e2 : sy_up W 392 5 (W 392 5) 392 2 = nI j := by simp [zz_up, w2]
              rw [e2, nI_1]
              refine hkk (j + 1, sy_up (sy_up W 392 5 (W 392 5)) 392 2 (nI (j + 1))) ⟨by simp only; omega, by simp only; omega, hfg1, zx_ta_t (zx_ta_t aW (zx_ta_u (by omega))) (zx_ta_u (by omega)), by simp [zz_up], by simp [zz_up, w3], ?_⟩ (by simp only; omega)
              simp only
              rw [hvs, if_neg (by omega)]
              simp [zz_up, w5]
            · have : ¬ 3 ≤ j - i := fun q => h3 (nI_le (a := 3) q (by omega))
              rw [zz_b, zz_g, zz_b, zz_b]
              refine ⟨zz_in (by omega) (by omega), ?_⟩
              simp only [cj, wt j hj2]
              have e2 : sy_up W 392 5 (10 * W 392 5 + t j - 48) 392 2 = nI j := by simp [zz_up, w2]
              rw [e2, nI_1]
              refine hkk (j + 1, sy_up (sy_up W 392 5 (10 * W 392 5 + t j - 48)) 392 2 (nI (j + 1))) ⟨by simp only; omega, by simp only; omega, hfg1, zx_ta_t (zx_ta_t aW (zx_ta_u (by omega))) (zx_ta_u (by omega)), by simp [zz_up], by simp [zz_up, w3], ?_⟩ (by simp only; omega)
              simp only
              rw [hvs, if_pos (by omega)]
              simp [zz_up, w5]
              rw [Int32.mul_comm]
          · rw [if_neg hdj, if_pos rfl]
            exact hend (zx_fg_0 (fun q => hdj q.2))
      · rw [if_neg hd, if_pos rfl, zz_b, zz_g, v2]
        refine ⟨zz_in (by omega) (by omega), ?_⟩
        rw [zz_b, zz_b, zz_some, show V 393 (nI i).toNatClampNeg = t i by rw [ci]; exact vt i hlt]
        have e2 : sy_up V 392 4 (t i) 392 2 = nI i := by simp [zz_up, v2]
        rw [e2, nI_1]
        exact ⟨zx_ta_t (zx_ta_t aV (zx_ta_u (by omega))) (zx_ta_u (by omega)), by simp [zz_up, v3], Or.inr (Or.inr ⟨hlt, by simpa using hd, by simp [zz_up], by simp [zz_up]⟩)⟩
  unfold m_Model_nextToken_B0
  rw [zz_i, u0, hU2]
  refine ⟨fun hle => ?_, fun hnle => ?_⟩
  · have := nI_eq_of hle hi (by omega)
    subst this
    exact hJ (zx_ru_0 (fun q => by omega))
  · have hi2 := nI_lt_of hnle (by omega) (by omega)
    rw [zz_b, zz_g]
    refine ⟨zz_in (by omega) (by omega), ?_⟩
    rw [zz_i]
    simp only [zz_cl (show i < 2147483648 by omega), ut i hi2]
    refine ⟨fun h => ?_, fun h => ?_⟩
    · rw [zz_b, nI_1]
      refine hk (i + 1, sy_up U 392 2 (nI (i + 1))) ⟨by simp only; omega, zx_ta_t hU (zx_ta_u (by omega)), by simp [zz_up], ?_⟩ (by simp only; omega)
      simp only
      rw [← hs]
      exact (zx_ru_1 hi2 (by simp [zx_bl, h])).symm
    · exact hJ (zx_ru_0 (fun q => h (by have := q.2; simpa [zx_bl] using this)))
