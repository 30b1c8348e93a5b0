/-! ===== the class's reader, word by word ===== -/
def zx_dr (S : sy_St) (D : zx_D) : Prop := S 37 7 = nI D.1 ∧ D.1 ≤ 12 ∧ (∀ i, i < D.1 → S 38 i = D.2.1 i) ∧ S 37 8 = nI D.2.2.1 ∧ D.2.2.1 ≤ 6 ∧ (∀ q, q < D.2.2.1 → S 39 q = D.2.2.2.1 (5 * q) ∧ S 40 q = D.2.2.2.1 (5 * q + 1) ∧ S 41 q = D.2.2.2.1 (5 * q + 2) ∧ S 42 q = D.2.2.2.1 (5 * q + 3) ∧ S 43 q = D.2.2.2.1 (5 * q + 4)) ∧ S 35 7 = (if D.2.2.2.2.1 = true then 1 else 0) ∧ (∀ i, i < 3 → S 44 i = D.2.2.2.2.2.1 i) ∧ S 35 8 = (if D.2.2.2.2.2.2.1 = true then 1 else 0) ∧ S 37 9 = D.2.2.2.2.2.2.2
def zx_tx (S : sy_St) (t : Nat → Int32) (n : Nat) : Prop := S 35 2 = nI n ∧ ∀ i, i < n → S 36 i = t i
def zx_C (S : sy_St) (t : Nat → Int32) (n p : Nat) (D : zx_D) : Prop := zx_tx S t n ∧ S 35 3 = 0 ∧ S 35 4 = -1 ∧ p ≤ n ∧ S 35 5 = nI p ∧ zx_dr S D
def zx_X (S : sy_St) (t : Nat → Int32) (n : Nat) (f : zx_F) : Prop := zx_tx S t n ∧ S 35 3 = f.1 ∧ f.1 ≠ 0 ∧ S 35 4 = nI f.2 ∧ (∃ p, p ≤ n ∧ S 35 5 = nI p) ∧ ∃ w, w ≤ 12 ∧ S 37 7 = nI w
def zx_S (S : sy_St) (t : Nat → Int32) (n : Nat) (D : zx_D) (y : Sum zx_F Nat) : Prop := match y with
  | .inl f => zx_X S t n f
  | .inr p => zx_C S t n p D
def zx_fr (S S1 : sy_St) : Prop := ∀ i, (i < 35 ∨ 44 < i) → S1 i = S i
theorem zx_fr_r {S : sy_St} : zx_fr S S := fun _ _ => rfl
theorem zx_fr_t {S S1 S2 : sy_St} (h : zx_fr S S1) (g : zx_fr S1 S2) : zx_fr S S2 := fun i a => (g i a).trans (h i a)
theorem zx_fr_u {S : sy_St} {k j : Nat} {v : Int32} (hk : 35 ≤ k) (hk2 : k ≤ 44) : zx_fr S (sy_up S k j v) := fun i a => zz_up1 (by omega)
def zx_at (S S1 : sy_St) (q : Nat) : Prop := (∀ i j, ¬ (i = 35 ∧ j = 5) → S1 i j = S i j) ∧ S1 35 5 = nI q
theorem zx_at_fr {S S1 : sy_St} {q : Nat} (h : zx_at S S1 q) : zx_fr S S1 := fun i a => funext fun j => h.1 i j (by omega)
theorem zx_dr_f {S S1 : sy_St} {D : zx_D} (h : ∀ i j, ((i = 35 ∧ (j = 7 ∨ j = 8)) ∨ (37 ≤ i ∧ i ≤ 44)) → S1 i j = S i j) (d : zx_dr S D) : zx_dr S1 D := by
  obtain ⟨d1, d2, d3, d4, d5, d6, d7, d8, d9, d10⟩ := d
  refine ⟨by rw [h 37 7 (by omega), d1], d2, fun i hi => by rw [h 38 i (by omega)]; exact d3 i hi, by rw [h 37 8 (by omega), d4], d5, fun q hq => ?_, by rw [h 35 7 (by omega), d7], fun i hi => by rw [h 44 i (by omega)]; exact d8 i hi, by rw [h 35 8 (by omega), d9], by rw [h 37 9 (by omega), d10]⟩
  rw [h 39 q (by omega), h 40 q (by omega), h 41 q (by omega), h 42 q (by omega), h 43 q (by omega)]
  exact d6 q hq
theorem zx_tx_f {S S1 : sy_St} {t : Nat → Int32} {n : Nat} (h2 : S1 35 2 = S 35 2) (h36 : S1 36 = S 36) (d : zx_tx S t n) : zx_tx S1 t n := ⟨by rw [h2]; exact d.1, fun i hi => by rw [h36]; exact d.2 i hi⟩
theorem zx_C_at {S S1 : sy_St} {t : Nat → Int32} {n p q : Nat} {D : zx_D} (h : zx_C S t n p D) (g : zx_at S S1 q) (hq : q ≤ n) : zx_C S1 t n q D := by
  obtain ⟨h1, h2, h3, h4, h5, h6⟩ := h
  exact ⟨zx_tx_f (g.1 35 2 (by omega)) (funext fun j => g.1 36 j (by omega)) h1, by rw [g.1 35 3 (by omega), h2], by rw [g.1 35 4 (by omega), h3], hq, g.2, zx_dr_f (fun i j d => g.1 i j (by omega)) h6⟩
theorem zx_X_at {S S1 : sy_St} {t : Nat → Int32} {n q : Nat} {f : zx_F} (h : zx_X S t n f) (g : zx_at S S1 q) (hq : q ≤ n) : zx_X S1 t n f := by
  obtain ⟨h1, h2, h3, h4, h5, w, h6, h7⟩ := h
  exact ⟨zx_tx_f (g.1 35 2 (by omega)) (funext fun j => g.1 36 j (by omega)) h1, by rw [g.1 35 3 (by omega), h2], h3, by rw [g.1 35 4 (by omega), h4], ⟨q, hq, g.2⟩, w, h6, by rw [g.1 37 7 (by omega), h7]⟩
theorem zx_at_up {S : sy_St} {q : Nat} : zx_at S (sy_up S 35 5 (nI q)) q := ⟨fun i j h => by
  rw [zz_up]
  by_cases a : i = 35
  · subst a
    by_cases b : j = 5
    · exact absurd ⟨rfl, b⟩ h
    · rw [if_pos rfl, if_neg b]
  · rw [if_neg a], by rw [zz_upo, if_pos rfl]⟩
theorem zp_skip {S : sy_St} {t : Nat → Int32} {n p : Nat} (hn : n ≤ 250) (hx : zx_tx S t n) (h5 : S 35 5 = nI p) (hp : p ≤ n) : zz_wp (m_Reader_skipBlanks S) (fun _ S1 => zx_at S S1 (zx_sk t n p)) := by
  unfold m_Reader_skipBlanks
  refine zz_loopX (ap := fun (k : sy_St → sy_R) (u : Nat × sy_St) => k u.2) (fun u => n - u.1) (fun u => u.1 ≤ n ∧ zx_at S u.2 u.1 ∧ zx_sk t n u.1 = zx_sk t n p) ?_ sy_F (p, S) (zz_F (by simp only; omega)) ⟨hp, ⟨fun _ _ _ => rfl, h5⟩, rfl⟩
  rintro k ⟨i, T⟩ ⟨hi, hT, hs⟩ hk
  simp only at hi hT hs hk ⊢
  have t2 : T 35 2 = nI n := by rw [hT.1 35 2 (by omega)]; exact hx.1
  unfold m_Reader_skipBlanks_B0
  rw [zz_i, t2, hT.2]
  refine ⟨fun hle => ?_, fun hnle => ?_⟩
  · have := nI_eq_of hle hi (by omega)
    subst this
    rw [zz_some, ← hs, show zx_sk t i i = i from zx_ru_0 (fun q => by omega)]
    exact hT
  · have hi2 := nI_lt_of hnle (by omega) (by omega)
    rw [zz_b, zz_g]
    refine ⟨zz_in (by omega) (by omega), ?_⟩
    rw [zz_i]
    simp only [zz_cl (show i < 2147483648 by omega)]
    rw [hT.1 36 i (by omega), hx.2 i hi2]
    refine ⟨fun h => ?_, fun h => ?_⟩
    · rw [zz_b, nI_1]
      refine hk (i + 1, sy_up T 35 5 (nI (i + 1))) ⟨by simp only; omega, ?_, ?_⟩ (by simp only; omega)
      · simp only
        exact ⟨fun a b c => by rw [zx_at_up.1 a b c, hT.1 a b c], zx_at_up.2⟩
      · simp only
        rw [← hs]
        exact (zx_ru_1 hi2 (by simp [zx_bl, h])).symm
    · rw [zz_some, ← hs, show zx_sk t n i = i from zx_ru_0 (fun q => h (by have := q.2; simpa [zx_bl] using this))]
      exact hT
theorem zp_fail_C {S : sy_St} {t : Nat → Int32} {n p a : Nat} {k : Int32} {D : zx_D} (h : zx_C S t n p D) (hk : k ≠ 0) : zz_wp (m_Reader_fail k (nI a) S) (fun _ S1 => zx_fr S S1 ∧ zx_X S1 t n (k, a)) := by
  obtain ⟨h1, h2, h3, h4, h5, h6⟩ := h
  unfold m_Reader_fail
  rw [if_pos h2, zz_b, zz_b, zz_some]
  refine ⟨zx_fr_t (zx_fr_u (by omega) (by omega)) (zx_fr_u (by omega) (by omega)), zx_tx_f (by simp [zz_up]) (by rw [zz_up1 (by omega), zz_up1 (by omega)]) h1, by simp [zz_up], hk, by simp [zz_up], ⟨p, h4, by simp [zz_up, h5]⟩, D.1, h6.2.1, by simp [zz_up, h6.1]⟩
theorem zp_fail_X {S : sy_St} {t : Nat → Int32} {n : Nat} {f : zx_F} {k a : Int32} (h : zx_X S t n f) : m_Reader_fail k a S = some (0, S) := by
  unfold m_Reader_fail
  rw [if_neg (by rw [h.2.1]; exact h.2.2.1)]
theorem zp_readNumber {S : sy_St} {t : Nat → Int32} {n : Nat} {lo hi : Int32} {D : zx_D} (hn : n ≤ 250) (y : Sum zx_F Nat) (h : zx_S S t n D y) : zz_wp (m_Reader_readNumber lo hi S) (fun r S1 => zx_fr S S1 ∧ zx_S S1 t n D (zx_bind y fun p => zx_bind (zx_num t n lo hi p) fun x => .inr x.2) ∧ ∀ p x, y = .inr p → zx_num t n lo hi p = .inr x → r = x.1 ∧ S1 35 6 = nI (zx_sk t n p)) := by
  unfold m_Reader_readNumber
  rw [zz_c]
  cases y with
  | inl f =>
    have h : zx_X S t n f := h
    obtain ⟨h1, h2, h3, h4, ⟨p, hp, h5⟩, h6⟩ := id h
    refine zz_mono (zp_skip hn h1 h5 hp) (fun _ S1 g => ?_)
    rw [if_neg (by rw [g.1 35 3 (by omega), h2]; exact h3), zz_some]
    exact ⟨zx_at_fr g, zx_X_at h g (zx_sk_b hp).2.1, fun p x q => by cases q⟩
  | inr p =>
    have h : zx_C S t n p D := h
    obtain ⟨h1, h2, h3, hp, h5, h6⟩ := id h
    refine zz_mono (zp_skip hn h1 h5 hp) (fun _ S1 g => ?_)
    obtain ⟨s1, s2, -⟩ := zx_sk_b (t := t) hp
    rw [if_pos (by rw [g.1 35 3 (by omega), h2]), zz_b]
    obtain ⟨s, hs⟩ : ∃ s, s = zx_sk t n p := ⟨_, rfl⟩
    rw [← hs] at g s1 s2
    rw [g.2]
    have hC1 := zx_C_at h g s2
    have hnum : zx_num t n lo hi p = if zx_fg t n s = s then .inl (1, s) else if 3 < zx_fg t n s - s ∨ zx_val t s (zx_fg t n s - s) < lo ∨ hi < zx_val t s (zx_fg t n s - s) then .inl (2, s) else .inr (zx_val t s (zx_fg t n s - s), zx_fg t n s) := by
      rw [hs]; rfl
    refine zz_loopX (ap := fun (k : zt_3) (u : Nat × Int32 × sy_St) => k lo hi u.2.1 u.2.2) (fun u => n - u.1) (fun u => u.2.1 = zx_val t s (u.1 - s) ∧ s ≤ u.1 ∧ u.1 ≤ n ∧ zx_fg t n u.1 = zx_fg t n s ∧ zx_C u.2.2 t n u.1 D ∧ u.2.2 35 6 = nI s ∧ zx_fr S u.2.2) ?_ sy_F (s, 0, sy_up S1 35 6 (nI s)) (zz_F (by simp only; omega)) ⟨by simp only [Nat.sub_self]; rfl, Nat.le_refl _, s2, rfl, ?_, by simp [zz_up], zx_fr_t (zx_at_fr g) (zx_fr_u (by omega) (by omega))⟩
    · rintro k ⟨i, x0, T⟩ ⟨hx0, hsi, hin, hfi, hT, h6T, hfr⟩ hk
      simp only at hx0 hsi hin hfi hT h6T hfr hk ⊢
      subst hx0
      obtain ⟨t1, t2, t3, t4, t5, t6⟩ := id hT
      have hend : zx_fg t n i = i → zz_wp (m_Reader_readNumber_J93 lo hi (zx_val t s (i - s)) T) (fun r S1 => zx_fr S S1 ∧ zx_S S1 t n D (zx_bind (.inr p) fun p => zx_bind (zx_num t n lo hi p) fun x => .inr x.2) ∧ ∀ p_1 x, (Sum.inr p : Sum zx_F Nat) = .inr p_1 → zx_num t n lo hi p_1 = .inr x → r = x.1 ∧ S1 35 6 = nI (zx_sk t n p_1)) := by
        intro he
        have hfs : zx_fg t n s = i := by rw [← hfi, he]
        rw [hfs] at hnum
        unfold m_Reader_readNumber_J93
        rw [zz_b, t5, h6T, pk_sub hsi, zx_bind_r, hnum]
        have hbad : ∀ (kk : Int32) (x : Int32), kk ≠ 0 → (if i = s then (.inl (1, s) : Sum zx_F (Int32 × Nat)) else if 3 < i - s ∨ zx_val t s (i - s) < lo ∨ hi < zx_val t s (i - s) then .inl (2, s) else .inr (zx_val t s (i - s), i)) = .inl (kk, s) → zz_wp (sy_c (m_Reader_fail kk (nI s) T) fun r34 S33 => some (x, S33)) (fun r S1 => zx_fr S S1 ∧ zx_S S1 t n D (zx_bind (if i = s then (.inl (1, s) : Sum zx_F (Int32 × Nat)) else if 3 < i - s ∨ zx_val t s (i - s) < lo ∨ hi < zx_val t s (i - s) then .inl (2, s) else .inr (zx_val t s (i - s), i)) fun x => .inr x.2) ∧ ∀ p_1 x, (Sum.inr p : Sum zx_F Nat) = .inr p_1 → zx_num t n lo hi p_1 = .inr x → r = x.1 ∧ S1 35 6 = nI (zx_sk t n p_1)) := by
          intro kk x hkk hb
          rw [hb, zz_c]
          refine zz_mono (zp_fail_C hT hkk) (fun _ U ⟨u1, u2⟩ => ?_)
          rw [zz_some]
          refine ⟨zx_fr_t hfr u1, u2, fun p1 y hp1 hy => ?_⟩
          cases hp1
          rw [hnum, hb] at hy
          cases hy
        rw [zz_i]
        refine ⟨fun h0 => ?_, fun h0 => ?_⟩
        · have his : i = s := by
            rcases Nat.eq_zero_or_pos (i - s) with q | q
            · omega
            · exact absurd h0 (nI_ne0 q (by omega))
          rw [his] at hbad ⊢
          exact hbad 1 _ (by decide) (by rw [if_pos rfl])
        · have his : i ≠ s := fun q => h0 (by rw [q, Nat.sub_self]; rfl)
          rw [zz_i]
          refine ⟨fun h3 => ?_, fun h3 => ?_⟩
          · have := (nI_ltI (a := 3) (by omega) (by omega)).mp h3
            exact hbad 2 _ (by decide) (by rw [if_neg his, if_pos (Or.inl this)])
          · have h3' : ¬ 3 < i - s := fun q => h3 (nI_lt (a := 3) q (by omega))
            rw [zz_i]
            refine ⟨fun hl => hbad 2 _ (by decide) (by rw [if_neg his, if_pos (Or.inr (Or.inl hl))]), fun hl => ?_⟩
            rw [zz_i]
            refine ⟨fun hh => ?_, fun hh => hbad 2 _ (by decide) (by rw [if_neg his, if_pos (Or.inr (Or.inr (by grind)))])⟩
            have hok : (if i = s then (.inl (1, s) : Sum zx_F (Int32 × Nat)) else if 3 < i - s ∨ zx_val t s (i - s) < lo ∨ hi < zx_val t s (i - s) then .inl (2, s) else .inr (zx_val t s (i - s), i)) = .inr (zx_val t s (i - s), i) := by
              rw [if_neg his, if_neg (fun q => by
                rcases q with q | q | q
                · exact h3' q
                · exact hl q
                · exact absurd hh (by grind))]
            rw [hok, zz_some]
            refine ⟨hfr, hT, fun p1 y hp1 hy => ?_⟩
            cases hp1
            rw [hnum, hok] at hy
            cases hy
            exact ⟨rfl, by rw [h6T, hs]⟩
      unfold m_Reader_readNumber_B23
      rw [zz_i, t1.1, t5]
      refine ⟨fun hle => ?_, fun hnle => ?_⟩
      · have := nI_eq_of hle hin (by omega)
        subst this
        exact hend (zx_fg_0 (fun q => by omega))
      · have hi2 := nI_lt_of hnle (by omega) (by omega)
        rw [zz_b, zz_g, zz_c]
        refine ⟨zz_in (by omega) (by omega), ?_⟩
        have ci : (nI i).toNatClampNeg = i := zz_cl (by omega)
        have hfig : m_Reader_isFigure (T 36 (nI i).toNatClampNeg) T = some (if zx_dg (t i) = true then 1 else 0, T) := by
          rw [ci, t1.2 i hi2]
          unfold m_Reader_isFigure zx_dg
          generalize t i = x
          by_cases a : x < 48
          · rw [if_pos a, if_neg (by simp; grind)]
          · by_cases b : 57 < x
            · rw [if_neg a, if_pos b, if_neg (by simp; grind)]
            · rw [if_neg a, if_neg b, if_pos (by simp; grind)]
        rw [hfig, zz_some]
        by_cases hd : zx_dg (t i) = true
        · rw [if_pos hd, if_neg (by decide)]
          have hfg1 : zx_fg t n (i + 1) = zx_fg t n s := by rw [← hfi]; exact (zx_ru_1 hi2 hd).symm
          have hvs : zx_val t s (i + 1 - s) = if i - s < 3 then zx_val t s (i - s) * 10 + t i - 48 else zx_val t s (i - s) := by
            rw [show i + 1 - s = (i - s) + 1 by omega, zx_val, show s + (i - s) = i by omega]
          have hk := hk (i + 1, zx_val t s (i + 1 - s), sy_up T 35 5 (nI (i + 1))) ⟨rfl, by simp only; omega, by simp only; omega, hfg1, zx_C_at hT zx_at_up (by simp only; omega), by simp [zz_up, h6T], zx_fr_t hfr (zx_fr_u (by omega) (by omega))⟩ (by simp only; omega)
          simp only at hk
          rw [hvs] at hk
          rw [t5, h6T, pk_sub hsi, zz_i]
          refine ⟨fun h3 => ?_, fun h3 => ?_⟩
          · have := (nI_leI (a := 3) (by omega) (by omega)).mp h3
            rw [if_neg (by omega)] at hk
            rw [zz_b, nI_1]
            exact hk
          · have : ¬ 3 ≤ i - s := fun q => h3 (nI_le (a := 3) q (by omega))
            rw [if_pos (by omega)] at hk
            rw [zz_b, zz_g, zz_b, zz_b, nI_1]
            refine ⟨zz_in (by omega) (by omega), ?_⟩
            simp only [ci, t1.2 i hi2]
            exact hk
        · rw [if_neg hd, if_pos rfl]
          exact hend (zx_fg_0 (fun q => hd q.2))
    · simp only
      refine ⟨zx_tx_f (by simp [zz_up]) (by rw [zz_up1 (by omega)]) hC1.1, by simp [zz_up, hC1.2.1], by simp [zz_up, hC1.2.2.1], s2, by simp [zz_up, g.2], zx_dr_f (fun i j d => ?_) hC1.2.2.2.2.2⟩
      rw [zz_up]
      by_cases a : i = 35
      · subst a; rw [if_pos rfl, if_neg (by omega)]
      · rw [if_neg a]
