def zd_n (i j : Nat) : Prop := i = 404 ∨ (i = 392 ∧ j = 26)
def zd_hM (i j : Nat) : Prop := i = 404 ∨ (i = 392 ∧ j = 26) ∨ (i = 400 ∧ j ≠ 6)
theorem zq_noteTail {S : sy_St} {a : zs_A} {b : Nat} (hb : b < 60) (h26 : S 392 26 = nI b) (hv : zv_M S 400 0 = a.1) : zz_wp (m_Model_note_J49 S) (fun _ S1 => (∀ i j, ¬ zd_n i j → S1 i j = S i j) ∧ S1 392 26 = nI (b + 1) ∧ (∀ i, i < b → zv_M S1 404 (31 * i) = zv_M S 404 (31 * i)) ∧ zv_M S1 404 (31 * b) = a.1) := by
  unfold m_Model_note_J49
  rw [h26, show (31 : Int32) = nI 31 from rfl, pk_mul, show (0 : Int32) = nI 0 from rfl]
  simp only [zz_c]
  refine zz_mono (zq_copy (a := 400) (n0 := 31) (b := 404) (n2 := 1860) (x := 0) (y := 31 * b) (by omega) (by omega) (by omega) (by omega) (by omega)) (fun r S1 ⟨f1, z1⟩ => ?_)
  simp only [zz_b, zz_some]
  have e404 : ∀ z, sy_up S1 392 26 (S1 392 26 + 1) 404 z = S1 404 z := fun z => by rw [zz_up1 (by omega)]
  refine ⟨fun i j hd => ?_, ?_, fun i hi => ?_, ?_⟩
  · unfold zd_n at hd
    rw [zz_up]
    by_cases q : i = 392
    · subst q
      rw [if_pos rfl, if_neg (by omega), f1 392 (by omega)]
    · rw [if_neg q, f1 i (by omega)]
  · rw [zz_upo, if_pos rfl, f1 392 (by omega), h26, nI_1]
  · funext j
    unfold zv_M
    by_cases h6 : j = 6
    · rw [if_pos h6, if_pos h6]
    · rw [if_neg h6, if_neg h6]
      by_cases h31 : j < 31
      · rw [if_pos h31, if_pos h31, e404, z1, if_neg (by omega)]
      · rw [if_neg h31, if_neg h31]
  · rw [← hv]
    funext j
    unfold zv_M
    by_cases h6 : j = 6
    · rw [if_pos h6, if_pos h6]
    · rw [if_neg h6, if_neg h6]
      by_cases h31 : j < 31
      · rw [if_pos h31, if_pos h31, e404, z1, if_pos (by omega)]
        congr 1; omega
      · rw [if_neg h31, if_neg h31]
theorem zq_note {S : sy_St} {a : zs_A} (ha : za_M S a) (hn : a.2.1 ≤ 60) : zz_wp (m_Model_note S) (fun _ S1 => (∀ i j, ¬ zd_n i j → S1 i j = S i j) ∧ S1 392 26 = nI (zs_push a).1 ∧ ∀ i, i < (zs_push a).1 → zv_M S1 404 (31 * i) = (zs_push a).2 i) := by
  obtain ⟨hv, h26, hq⟩ := ha
  unfold m_Model_note
  rw [h26, zz_i]
  refine ⟨fun h60 => ?_, fun h60 => ?_⟩
  · have h60' : a.2.1 = 60 := (nI_eq (show a.2.1 < 2 ^ 31 by omega) (show 60 < 2 ^ 31 by omega)).mp h60
    have hp : zs_push a = (60, fun i => if i = 59 then a.1 else a.2.2 (i + 1)) := by unfold zs_push; rw [if_neg (by omega)]
    rw [hp]
    refine zz_loopX (ap := fun (k : zt_1) (s : Nat × sy_St) => k (nI s.1) s.2) (fun s => 1829 - s.1) (fun s => s.1 ≤ 1829 ∧ zf_o S s.2 404 404 ∧ ∀ z, s.2 404 z = if z < s.1 then S 404 (z + 31) else S 404 z) ?_ sy_F (0, S) (zz_F (by omega)) ⟨by omega, zf_refl, fun z => by rw [if_neg (by simp only; omega)]⟩
    rintro k ⟨i, S1⟩ ⟨hi, hf, hz⟩ hk
    simp only at hi hf hz hk ⊢
    unfold m_Model_note_B11
    rw [zz_i]
    refine ⟨fun h29 => ?_, fun h29 => ?_⟩
    · have : i = 1829 := by
        rcases Nat.lt_or_ge i 1829 with q | q
        · exact absurd h29 (by rw [show (1829 : Int32) = nI 1829 from rfl]; exact nI_ge q (by omega))
        · omega
      subst this
      simp only [zz_b]
      have r26 : S1 392 26 - 1 = nI 59 := by rw [hf 392 (by omega), h26, h60']; rfl
      rw [r26]
      have hv2 : zv_M (sy_up S1 392 26 (nI 59)) 400 0 = a.1 := by rw [zvM_k (by omega), zf_M hf (by omega), hv]
      refine zz_mono (zq_noteTail (b := 59) (by omega) (by rw [zz_upo, if_pos rfl]) hv2) (fun r S2 ⟨f2, q2, q3, q4⟩ => ⟨fun i j hd => ?_, q2, fun i hi => ?_⟩)
      · rw [f2 i j hd]
        unfold zd_n at hd
        rw [zz_up]
        by_cases q : i = 392
        · subst q; rw [if_pos rfl, if_neg (by omega), hf 392 (by omega)]
        · rw [if_neg q, hf i (by omega)]
      · by_cases q : i = 59
        · subst q; rw [if_pos rfl, q4]
        · rw [if_neg q, q3 i (by omega), zvM_k (by omega), ← hq (i + 1) (by omega)]
          funext j
          unfold zv_M
          by_cases h6 : j = 6
          · rw [if_pos h6, if_pos h6]
          · rw [if_neg h6, if_neg h6]
            by_cases h31 : j < 31
            · rw [if_pos h31, if_pos h31, hz, if_pos (by omega)]
              congr 1; omega
            · rw [if_neg h31, if_neg h31]
    · have hi2 : i < 1829 := by
        rcases Nat.lt_or_ge i 1829 with q | q
        · exact q
        · exact absurd (by rw [show (1829 : Int32) = nI 1829 from rfl]; exact nI_le q (by omega)) h29
      simp only [zz_b, zz_g, show (31 : Int32) = nI 31 from rfl, nI_add, nI_1]
      refine ⟨zz_in (by omega) (by omega), zz_in (by omega) (by omega), ?_⟩
      rw [zz_cl (by omega), zz_cl (by omega)]
      refine hk (i + 1, sy_up S1 404 i (S1 404 (i + 31))) ⟨by simp only; omega, fun w hw => ?_, fun z => ?_⟩ (by simp only; omega)
      · simp only; rw [zz_up1 (by omega), hf w hw]
      · simp only
        rw [zz_upo, hz, hz]
        by_cases q : z = i
        · subst q
          rw [if_pos rfl, if_neg (by omega), if_pos (by omega)]
        · rw [if_neg q]
          by_cases q2 : z < i
          · rw [if_pos q2, if_pos (by omega)]
          · rw [if_neg q2, if_neg (by omega)]
  · have hlt : a.2.1 < 60 := by
      rcases Nat.lt_or_ge a.2.1 60 with q | q
      · exact q
      · exact absurd (by rw [show a.2.1 = 60 by omega]; rfl) h60
    have hp : zs_push a = (a.2.1 + 1, fun i => if i = a.2.1 then a.1 else a.2.2 i) := by unfold zs_push; rw [if_pos hlt]
    rw [hp]
    refine zz_mono (zq_noteTail (b := a.2.1) hlt h26 hv) (fun r S2 ⟨f2, q2, q3, q4⟩ => ⟨f2, q2, fun i hi => ?_⟩)
    simp only at hi ⊢
    by_cases q : i = a.2.1
    · subst q; rw [if_pos rfl, q4]
    · rw [if_neg q, q3 i (by omega), hq i (by omega)]
theorem zd_eM {S S1 : sy_St} {e : Nat → Nat → Int32} {wc M : Nat} (h : ∀ i j, (i = 392 ∧ (j = 17 ∨ j = 19)) ∨ i = 397 ∨ i = 398 ∨ i = 399 → S1 i j = S i j) (he : ze_M S e wc M) : ze_M S1 e wc M := by
  unfold ze_M at he ⊢
  rw [h 392 17 (by omega), h 392 19 (by omega), show S1 397 = S 397 from funext fun j => h 397 j (by omega), show S1 398 = S 398 from funext fun j => h 398 j (by omega), show S1 399 = S 399 from funext fun j => h 399 j (by omega)]
  exact he
/-- an hour of the reference: noted, then passed -/
theorem zq_hourStep {S : sy_St} {e : Nat → Nat → Int32} {wc M c : Nat} {a : zs_A} {f : Int32 → sy_St → sy_R} {Q : Int32 → sy_St → Prop} (he : ze_M S e wc M) (hw : ze_W e wc M) (h0 : 0 < M) (ha : za_M S a) (hW : za_W a M c) (hc : c < 2147483648) (k : ∀ r S1, (∀ i j, ¬ zd_hM i j → S1 i j = S i j) → za_M S1 (zs_hr e wc M a) → zz_wp (f r S1) Q) : zz_wp (sy_c (m_Model_note S) fun _ S1 => sy_c (m_Model_pass 400 31 0 S1) f) Q := by
  have hv := ha.1
  simp only [zz_c]
  refine zz_mono (zq_note ha hW.2.1) (fun r S1 ⟨f1, q1, q2⟩ => ?_)
  have hm1 : ze_M S1 e wc M := zd_eM (fun i j d => f1 i j (by unfold zd_n; omega)) he
  have hv1 : zv_M S1 400 0 = a.1 := by rw [← hv]; exact zv_Mc (fun j a1 a2 => f1 _ _ (by unfold zd_n; omega))
  refine zz_mono (zq_pass (a := 400) (c := c) (less := 0) (by omega) hm1 hw h0 (by rw [hv1]; exact hW.1) hc) (fun r S2 ⟨f2, k2, k6⟩ => ?_)
  refine k r S2 (fun i j hd => ?_) ⟨by rw [k2, hv1]; rfl, ?_, fun i hi => ?_⟩
  · unfold zd_hM at hd
    by_cases q : i = 400
    · subst q
      have : j = 6 := by omega
      subst this
      rw [k6, f1 400 6 (by unfold zd_n; omega)]
    · rw [f2 i (by omega), f1 i j (by unfold zd_n; omega)]
  · rw [f2 392 (by omega), q1]; rfl
  · rw [zf_M f2 (by omega), q2 i hi]; rfl
def zs_hrs (e : Nat → Nat → Int32) (wc M : Nat) (a : zs_A) : Nat → zs_A
  | 0 => a
  | n + 1 => zs_hr e wc M (zs_hrs e wc M a n)
theorem zs_hrs_W {e : Nat → Nat → Int32} {wc M c : Nat} {a : zs_A} (hw : ze_W e wc M) (h : za_W a M c) : ∀ n, za_W (zs_hrs e wc M a n) M (c + n)
  | 0 => h
  | n + 1 => zs_hr_W hw (zs_hrs_W hw h n)
theorem zp_isWhole {S : sy_St} {e : Nat → Nat → Int32} {wc M : Nat} (he : ze_C S e wc M) (hw : ze_W e wc M) : m_Edge_isWhole 1 S = some (if 0 < wc ∧ 0 < M then 1 else 0, S) := by
  have h12 := hw.1
  have h6 := hw.2.1
  unfold m_Edge_isWhole
  rw [he.1, he.2.1]
  rcases Nat.eq_zero_or_pos wc with q | q
  · subst q; rw [if_pos (by decide), if_neg (by omega)]
  · rw [if_neg (nI_nle q (by omega))]
    rcases Nat.eq_zero_or_pos M with q2 | q2
    · subst q2; rw [if_pos (by decide), if_neg (by omega)]
    · rw [if_neg (nI_nle q2 (by omega)), if_pos ⟨q, q2⟩]
theorem zq_isHere {S : sy_St} {e : Nat → Nat → Int32} {wc M : Nat} (he : ze_M S e wc M) (hw : ze_W e wc M) : m_Model_isHere S = some (if 0 < wc ∧ 0 < M then 1 else 0, S) := by
  have h12 := hw.1
  have h6 := hw.2.1
  unfold m_Model_isHere
  rw [he.1, he.2.1]
  rcases Nat.eq_zero_or_pos wc with q | q
  · subst q; rw [if_pos (by decide), if_neg (by omega)]
  · rw [if_neg (nI_nle q (by omega))]
    rcases Nat.eq_zero_or_pos M with q2 | q2
    · subst q2; rw [if_pos (by decide), if_neg (by omega)]
    · rw [if_neg (nI_nle q2 (by omega)), if_pos ⟨q, q2⟩]
/-- behind the hours of both -/
theorem za_all {S S1 S2 : sy_St} {e : Nat → Nat → Int32} {wc M c c2 : Nat} {a : zs_A} (g : zi_all S e wc M c) (hc : c ≤ c2) (f1 : ∀ i, ¬ zd_hC i → S1 i = S i) (a1 : za_C S1 a) (f2 : ∀ i j, ¬ zd_hM i j → S2 i j = S1 i j) (a2 : za_M S2 a) (hW : za_W a M c2) : zi_all S2 e wc M c2 := by
  obtain ⟨g1, g2, g3, g4, g5, g6, g7, g8, g9⟩ := zi_all_m hc g
  have q : ∀ D : Nat → Nat → Prop, (∀ i j, D i j → ¬ zd_hC i ∧ ¬ zd_hM i j) → zc_eq D S S2 := fun D hd i j d => by rw [f2 i j (hd i j d).2, f1 i (hd i j d).1]
  have a3 : za_C S2 a := by
    obtain ⟨b1, nx, b2, b3, b4, b5⟩ := a1
    refine ⟨by rw [← b1]; exact zv_Kc (fun i j h1 h2 => f2 i j (by unfold zd_hM; omega)), nx, b2, by rw [f2 55 1 (by unfold zd_hM; omega)]; exact b3, by rw [f2 55 2 (by unfold zd_hM; omega)]; exact b4, fun i hi => ?_⟩
    rw [← b5 i hi]
    exact zv_Kc (fun i j h1 h2 => f2 i j (by unfold zd_hM; omega))
  obtain ⟨n1, n2⟩ := za_to a3 a2 hW
  refine ⟨zi_edge_f (q _ ?_) g1, n1, zi_seed_f (q _ ?_) g3, n2, zi_img_f (q _ ?_) g5, zi_text_f (q _ ?_) g6, zi_fault_f (q _ ?_) g7, zi_seen_f (q _ ?_) g8, zi_book_f (q _ ?_) g9⟩
  · intro i j d; unfold zd_edge at d; unfold zd_hC zd_hM; omega
  · intro i j d; unfold zd_seed at d; unfold zd_hC zd_hM; omega
  · intro i j d; unfold zd_img at d; unfold zd_hC zd_hM; omega
  · intro i j d; unfold zd_text at d; unfold zd_hC zd_hM; omega
  · intro i j d; unfold zd_fault at d; unfold zd_hC zd_hM; omega
  · intro i j d; unfold zd_seen at d; unfold zd_hC zd_hM; omega
  · intro i j d; unfold zd_book at d; unfold zd_hC zd_hM; omega
theorem zd_eC {S S1 : sy_St} {e : Nat → Nat → Int32} {wc M : Nat} (h : ∀ i, 1 ≤ i → i ≤ 8 → S1 i = S i) (he : ze_C S e wc M) : ze_C S1 e wc M := by
  unfold ze_C at he ⊢
  rw [h 1 (by omega) (by omega), h 2 (by omega) (by omega), h 3 (by omega) (by omega), h 4 (by omega) (by omega), h 5 (by omega) (by omega), h 6 (by omega) (by omega), h 7 (by omega) (by omega), h 8 (by omega) (by omega)]
  exact he
theorem zo_hour (n : Int32) : zo_ok (m_Top_hour n) (m_Model_hour n) := by
  intro S e wc M c hc g
  have gs := zo_same g
  have gg := g
  obtain ⟨⟨hw, hm, hcl⟩, hnow, -, hpast, -⟩ := g
  by_cases hn : 1 ≤ n ∧ n ≤ 99
  · by_cases hh : 0 < wc ∧ 0 < M
    · obtain ⟨N, hN, rfl⟩ := nI_of2 (M := 99) (n := 99) rfl (show ¬ n < 0 by grind) hn.2
      obtain ⟨a, aC, aM, aW⟩ := za_of hnow hpast
      unfold m_Top_hour
      simp only [zz_i, zz_c]
      refine ⟨fun q => absurd q (by grind), fun _ => ⟨fun _ => ?_, fun q => absurd hn.2 q⟩⟩
      rw [zp_isWhole hcl hw, if_pos hh, zz_some]
      refine ⟨fun q => absurd q (by decide), fun _ => ?_⟩
      refine zz_loopX (ap := fun (k : zt_2) (s : Nat × sy_St) => k (nI N) (nI s.1) s.2) (fun s => N - s.1) (fun s => s.1 ≤ N ∧ (∀ i, ¬ zd_hC i → s.2 i = S i) ∧ za_C s.2 (zs_hrs e wc M a s.1)) ?_ sy_F (0, S) (zz_F (by omega)) ⟨by simp only; omega, fun i _ => rfl, aC⟩
      rintro k ⟨i, S1⟩ ⟨hi, hf, hz⟩ hk
      simp only at hi hf hz hk ⊢
      unfold m_Top_hour_B29
      rw [zz_i]
      refine ⟨fun hle => ?_, fun hnle => ?_⟩
      · have : i = N := by
          rcases Nat.lt_or_ge i N with q | q
          · exact absurd hle (nI_ge q (by omega))
          · omega
        subst this
        rw [zz_some]
        have r : S1 45 6 = (zs_hrs e wc M a i).1 1 := by rw [← hz.1]; rfl
        have hm1 : ze_M S1 e wc M := zd_eM (fun x j d => by rw [hf x (by unfold zd_hC; omega)]) hm
        have aM1 : za_M S1 a := ⟨by rw [← aM.1]; exact zv_Mc (fun j b1 b2 => by rw [hf 400 (by unfold zd_hC; omega)]), by rw [hf 392 (by unfold zd_hC; omega)]; exact aM.2.1, fun x hx => by rw [← aM.2.2 x hx]; exact zv_Mc (fun j b1 b2 => by rw [hf 404 (by unfold zd_hC; omega)])⟩
        unfold m_Model_hour
        rw [zq_in_t hn.1 hn.2]
        simp only [zz_c, zz_some, zz_i]
        refine ⟨fun q => absurd q (by decide), fun _ => ?_⟩
        rw [zq_isHere hm1 hw, if_pos hh, zz_some]
        refine ⟨fun q => absurd q (by decide), fun _ => ?_⟩
        refine zz_loopX (ap := fun (k : zt_2) (s : Nat × sy_St) => k (nI i) (nI s.1) s.2) (fun s => i - s.1) (fun s => s.1 ≤ i ∧ (∀ x j, ¬ zd_hM x j → s.2 x j = S1 x j) ∧ za_M s.2 (zs_hrs e wc M a s.1)) ?_ sy_F (0, S1) (zz_F (by omega)) ⟨by simp only; omega, fun _ _ _ => rfl, aM1⟩
        rintro k2 ⟨i2, S2⟩ ⟨hi2, hf2, hz2⟩ hk2
        simp only at hi2 hf2 hz2 hk2 ⊢
        have hm2 : ze_M S2 e wc M := zd_eM (fun x j d => hf2 x j (by unfold zd_hM; omega)) hm1
        unfold m_Model_hour_B25
        rw [zz_i]
        refine ⟨fun hle2 => ?_, fun hnle2 => ?_⟩
        · have : i2 = i := by
            rcases Nat.lt_or_ge i2 i with q | q
            · exact absurd hle2 (nI_ge q (by omega))
            · omega
          subst this
          rw [zz_some]
          refine ⟨?_, e, wc, M, za_all gg (by omega) hf hz hf2 hz2 (?_)⟩
          · rw [r, ← hz2.1]; rfl
          · have := zs_hrs_W hw aW i2
            exact ⟨zv_W_m this.1 (by omega), this.2.1, fun x hx => zv_W_m (this.2.2 x hx) (by omega)⟩
        · have hi3 : i2 < i := by
            rcases Nat.lt_or_ge i2 i with q | q
            · exact q
            · exact absurd (nI_le q (by omega)) hnle2
          refine zq_hourStep hm2 hw hh.2 hz2 (zs_hrs_W hw aW i2) (by omega) (fun r2 S3 f3 a3 => ?_)
          simp only [zz_b, nI_1]
          refine hk2 (i2 + 1, S3) ⟨by simp only; omega, fun x j d => ?_, a3⟩ (by simp only; omega)
          simp only; rw [f3 x j d, hf2 x j d]
      · have hi3 : i < N := by
          rcases Nat.lt_or_ge i N with q | q
          · exact q
          · exact absurd (nI_le q (by omega)) hnle
        have hc1 : ze_C S1 e wc M := zd_eC (fun x b1 b2 => hf x (by unfold zd_hC; omega)) hcl
        rw [zz_c]
        refine zz_mono (zp_letHourPass hc1 hw hz (zs_hrs_W hw aW i) (by omega)) (fun r S2 ⟨f2, a2⟩ => ?_)
        simp only [zz_b, nI_1]
        refine hk (i + 1, S2) ⟨by simp only; omega, fun x d => ?_, a2⟩ (by simp only; omega)
        simp only; rw [f2 x d, hf x d]
    · refine zo_two (r := -1000000003) (S1 := S) (S2 := S) ?_ ?_ gs
      · unfold m_Top_hour
        rw [if_neg (by grind), if_pos hn.2, zp_isWhole hcl hw, if_neg hh]; rfl
      · unfold m_Model_hour
        rw [zq_in_t hn.1 hn.2]
        simp only [sy_c, zq_isHere hm hw, if_neg hh]; rfl
  · refine zo_two (r := -1000000002) (S1 := S) (S2 := S) ?_ ?_ gs
    · unfold m_Top_hour
      by_cases q : n < 1
      · rw [if_pos q]
      · rw [if_neg q, if_neg (by grind)]
    · unfold m_Model_hour; rw [zq_in_f hn]; rfl
