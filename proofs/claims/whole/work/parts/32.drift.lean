def zd_C2 (i j : Nat) : Prop := zd_hC i ∨ (i = 0 ∧ j = 15)
def zd_M2 (i j : Nat) : Prop := zd_hM i j ∨ (i = 400 ∧ j = 6)
theorem za_all2 {S S1 S2 : sy_St} {e : Nat → Nat → Int32} {wc M c c2 s : Nat} {a : zs_A} (g : zi_all S e wc M c) (hc : c ≤ c2) (f1 : ∀ i j, ¬ zd_C2 i j → S1 i j = S i j) (a1 : za_C S1 a) (s1 : S1 0 15 = nI s) (hs : s < 2147483648) (f2 : ∀ i j, ¬ zd_M2 i j → S2 i j = S1 i j) (a2 : za_M S2 a) (s2 : S2 400 6 = nI s) (hW : za_W a M c2) : zi_all S2 e wc M c2 := by
  obtain ⟨g1, g2, g3, g4, g5, g6, g7, g8, g9⟩ := zi_all_m hc g
  have q : ∀ D : Nat → Nat → Prop, (∀ i j, D i j → ¬ zd_C2 i j ∧ ¬ zd_M2 i j) → zc_eq D S S2 := fun D hd i j d => by rw [f2 i j (hd i j d).2, f1 i j (hd i j d).1]
  have a3 : za_C S2 a := by
    obtain ⟨b1, nx, b2, b3, b4, b5⟩ := a1
    refine ⟨by rw [← b1]; exact zv_Kc (fun i j h1 h2 => f2 i j (by unfold zd_M2 zd_hM; omega)), nx, b2, by rw [f2 55 1 (by unfold zd_M2 zd_hM; omega)]; exact b3, by rw [f2 55 2 (by unfold zd_M2 zd_hM; omega)]; exact b4, fun i hi => ?_⟩
    rw [← b5 i hi]
    exact zv_Kc (fun i j h1 h2 => f2 i j (by unfold zd_M2 zd_hM; omega))
  obtain ⟨n1, n2⟩ := za_to a3 a2 hW
  refine ⟨zi_edge_f (q _ ?_) g1, n1, ⟨?_, ?_⟩, n2, zi_img_f (q _ ?_) g5, zi_text_f (q _ ?_) g6, zi_fault_f (q _ ?_) g7, zi_seen_f (q _ ?_) g8, zi_book_f (q _ ?_) g9⟩
  · intro i j d; unfold zd_edge at d; unfold zd_C2 zd_M2 zd_hC zd_hM; omega
  · rw [f2 0 15 (by unfold zd_M2 zd_hM; omega), s1, s2]
  · rw [s2]; exact nI_pos' (by omega)
  · intro i j d; unfold zd_img at d; unfold zd_C2 zd_M2 zd_hC zd_hM; omega
  · intro i j d; unfold zd_text at d; unfold zd_C2 zd_M2 zd_hC zd_hM; omega
  · intro i j d; unfold zd_fault at d; unfold zd_C2 zd_M2 zd_hC zd_hM; omega
  · intro i j d; unfold zd_seen at d; unfold zd_C2 zd_M2 zd_hC zd_hM; omega
  · intro i j d; unfold zd_book at d; unfold zd_C2 zd_M2 zd_hC zd_hM; omega
noncomputable def zs_dr (e : Nat → Nat → Int32) (wc M : Nat) (d : zs_A × Nat) : zs_A × Nat := (zs_hr e wc M ((zs_by e M d.1.1 d.2).1, d.1.2), (zs_by e M d.1.1 d.2).2)
noncomputable def zs_drs (e : Nat → Nat → Int32) (wc M : Nat) (d : zs_A × Nat) : Nat → zs_A × Nat
  | 0 => d
  | n + 1 => zs_dr e wc M (zs_drs e wc M d n)
theorem zs_drs_W {e : Nat → Nat → Int32} {wc M c : Nat} {d : zs_A × Nat} (hw : ze_W e wc M) (h0 : 0 < M) (h : za_W d.1 M c) (hs : d.2 < 2147483648) : ∀ n, za_W (zs_drs e wc M d n).1 M (c + n) ∧ (zs_drs e wc M d n).2 < 2147483648
  | 0 => ⟨h, hs⟩
  | n + 1 => by
    obtain ⟨a, b⟩ := zs_drs_W hw h0 h hs n
    exact ⟨zs_hr_W hw ⟨zs_by_W hw.2.1 h0 a.1, a.2⟩, zs_by_lt⟩
theorem zo_drift (n : Int32) : zo_ok (m_Top_drift n) (m_Model_drift n) := by
  intro S e wc M c hc g
  have gs := zo_same g
  have gg := g
  obtain ⟨⟨hw, hm, hcl⟩, hnow, hseed, hpast, -⟩ := g
  by_cases hn : 1 ≤ n ∧ n ≤ 99
  · by_cases hh : 0 < wc ∧ 0 < M
    · obtain ⟨N, hN, rfl⟩ := nI_of2 (M := 99) (n := 99) rfl (show ¬ n < 0 by grind) hn.2
      obtain ⟨a, aC, aM, aW⟩ := za_of hnow hpast
      obtain ⟨s, hs, hs0⟩ := nI_of (x := S 400 6) (by have := hseed.2; grind)
      have hsC : S 0 15 = nI s := by rw [hseed.1, hs0]
      have hM := hw.2.1
      have DW := zs_drs_W (d := (a, s)) hw hh.2 aW hs
      unfold m_Top_drift
      simp only [zz_i, zz_c]
      refine ⟨fun q => absurd q (by grind), fun _ => ⟨fun _ => ?_, fun q => absurd hn.2 q⟩⟩
      rw [zp_isWhole hcl hw, if_pos hh, zz_some]
      refine ⟨fun q => absurd q (by decide), fun _ => ?_⟩
      rw [zz_b]
      refine zz_loopX (ap := fun (k : zt_3) (t : Nat × sy_St) => k (nI N) (S 45 7) (nI t.1) t.2) (fun t => N - t.1) (fun t => t.1 ≤ N ∧ (∀ i j, ¬ zd_C2 i j → t.2 i j = S i j) ∧ za_C t.2 (zs_drs e wc M (a, s) t.1).1 ∧ t.2 0 15 = nI (zs_drs e wc M (a, s) t.1).2) ?_ sy_F (0, S) (zz_F (by omega)) ⟨by simp only; omega, fun i j _ => rfl, aC, hsC⟩
      rintro k ⟨i, S1⟩ ⟨hi, hf, hz, hzs⟩ hk
      simp only at hi hf hz hzs hk ⊢
      unfold m_Top_drift_B37
      rw [zz_i]
      refine ⟨fun hle => ?_, fun hnle => ?_⟩
      · have : i = N := by
          rcases Nat.lt_or_ge i N with q | q
          · exact absurd hle (nI_ge q (by omega))
          · omega
        subst this
        rw [zz_some]
        have r : S1 45 7 = (zs_drs e wc M (a, s) i).1.1 2 := by rw [← hz.1]; rfl
        have r0 : S 45 7 = S 400 2 := by rw [show S 45 7 = zv_K S 45 2 from rfl, hnow.1]; rfl
        have hm1 : ze_M S1 e wc M := zd_eM (fun x j d => by rw [hf x j (by unfold zd_C2 zd_hC; omega)]) hm
        have aM1 : za_M S1 a := ⟨by rw [← aM.1]; exact zv_Mc (fun j b1 b2 => by rw [hf 400 _ (by unfold zd_C2 zd_hC; omega)]), by rw [hf 392 _ (by unfold zd_C2 zd_hC; omega)]; exact aM.2.1, fun x hx => by rw [← aM.2.2 x hx]; exact zv_Mc (fun j b1 b2 => by rw [hf 404 _ (by unfold zd_C2 zd_hC; omega)])⟩
        unfold m_Model_drift
        rw [zq_in_t hn.1 hn.2]
        simp only [zz_c, zz_some, zz_i]
        refine ⟨fun q => absurd q (by decide), fun _ => ?_⟩
        rw [zq_isHere hm1 hw, if_pos hh, zz_some]
        refine ⟨fun q => absurd q (by decide), fun _ => ?_⟩
        rw [zz_b, show (2 : Int32).toNatClampNeg = 2 from rfl, hf 400 2 (by unfold zd_C2 zd_hC; omega)]
        refine zz_loopX (ap := fun (k : zt_3) (t : Nat × sy_St) => k (nI i) (S 400 2) (nI t.1) t.2) (fun t => i - t.1) (fun t => t.1 ≤ i ∧ (∀ x j, ¬ zd_M2 x j → t.2 x j = S1 x j) ∧ za_M t.2 (zs_drs e wc M (a, s) t.1).1 ∧ t.2 400 6 = nI (zs_drs e wc M (a, s) t.1).2) ?_ sy_F (0, S1) (zz_F (by omega)) ⟨by simp only; omega, fun _ _ _ => rfl, aM1, by show S1 400 6 = _; rw [hf 400 6 (by unfold zd_C2 zd_hC; omega)]; exact hs0⟩
        rintro k2 ⟨i2, S2⟩ ⟨hi2, hf2, hz2, hzs2⟩ hk2
        simp only at hi2 hf2 hz2 hzs2 hk2 ⊢
        have hm2 : ze_M S2 e wc M := zd_eM (fun x j d => hf2 x j (by unfold zd_M2 zd_hM; omega)) hm1
        unfold m_Model_drift_B32
        rw [zz_i]
        refine ⟨fun hle2 => ?_, fun hnle2 => ?_⟩
        · have : i2 = i := by
            rcases Nat.lt_or_ge i2 i with q | q
            · exact absurd hle2 (nI_ge q (by omega))
            · omega
          subst this
          rw [zz_some]
          refine ⟨?_, e, wc, M, za_all2 gg (by omega) hf hz hzs (DW i2).2 hf2 hz2 hzs2 ?_⟩
          · rw [r, r0, ← hz2.1]; rfl
          · have := (DW i2).1
            exact ⟨zv_W_m this.1 (by omega), this.2.1, fun x hx => zv_W_m (this.2.2 x hx) (by omega)⟩
        · have hi3 : i2 < i := by
            rcases Nat.lt_or_ge i2 i with q | q
            · exact q
            · exact absurd (nI_le q (by omega)) hnle2
          have hDW := DW i2
          have hstep : zs_drs e wc M (a, s) (i2 + 1) = zs_dr e wc M (zs_drs e wc M (a, s) i2) := rfl
          generalize zs_drs e wc M (a, s) i2 = d at hz2 hzs2 hDW hstep
          obtain ⟨⟨v, n, q⟩, t⟩ := d
          simp only at hz2 hzs2 hDW
          have hv2 := hz2.1
          simp only at hv2
          -- the hour's end, from any S3 with the vector v3 and the seed t3
          have fin : ∀ (S3 : sy_St) (v3 : Nat → Int32) (t3 : Nat), zs_by e M v t = (v3, t3) → (∀ x j, ¬ (x = 400) → S3 x j = S2 x j) → zv_M S3 400 0 = v3 → S3 400 6 = nI t3 → zz_wp (sy_c (m_Model_note S3) fun _ S4 => sy_c (m_Model_pass 400 31 0 S4) fun _ S5 => sy_b (nI i2 + 1 : Int32) fun x28 => k2 (nI i) (S 400 2) x28 S5) (fun r2 S2 => r2 = S1 45 7 - S 45 7 ∧ zi_Inv S2 (c + 100)) := by
            intro S3 v3 t3 hby f3 hv3 hs3
            have hm3 : ze_M S3 e wc M := zd_eM (fun x j dd => f3 x j (by omega)) hm2
            have hW3 : zv_W v3 M (c + i2) := by
              have := zs_by_W (e := e) (s := t) hw.2.1 hh.2 hDW.1.1
              simp only at this
              rw [hby] at this
              exact this
            refine zq_hourStep (a := (v3, n, q)) (c := c + i2) hm3 hw hh.2 ⟨hv3, by rw [f3 392 26 (by omega)]; exact hz2.2.1, fun x hx => by rw [← hz2.2.2 x hx]; exact zv_Mc (fun j b1 b2 => f3 404 _ (by omega))⟩ ⟨hW3, hDW.1.2⟩ (by omega) (fun r2 S4 f4 a4 => ?_)
            simp only [zz_b, nI_1]
            refine hk2 (i2 + 1, S4) ⟨by simp only; omega, fun x j dd => ?_, ?_, ?_⟩ (by simp only; omega)
            · simp only
              unfold zd_M2 at dd
              rw [f4 x j (fun z => dd (Or.inl z)), f3 x j (fun z => dd (by unfold zd_hM; omega)), hf2 x j (by unfold zd_M2; exact dd)]
            · simp only; rw [hstep]; unfold zs_dr; simp only [hby]; exact a4
            · simp only; rw [hstep, f4 400 6 (by unfold zd_hM; omega), hs3]; unfold zs_dr; simp only [hby]
          rw [zz_c, hm2.2.1, zq_draw hzs2 hDW.2 hh.2 (by omega), zz_some, zz_c]
          have hj := zs_pick_lt (s := zs_seed t) hh.2
          have hby : zs_by e M v t = zs_by e M v t := rfl
          unfold zs_by at fin
          generalize zs_pick (zs_seed t) M = j at hj fin ⊢
          have r0 : ∀ x, x ≠ 400 → sy_up S2 400 6 (nI (zs_seed t)) x = S2 x := fun x hx => zz_up1 hx
          have hm3 : ze_M (sy_up S2 400 6 (nI (zs_seed t))) e wc M := zd_eM (fun x j dd => by rw [r0 x (by omega)]) hm2
          have hv3 : zv_M (sy_up S2 400 6 (nI (zs_seed t))) 400 0 = v := by rw [← hv2]; exact zv_Mc (fun j b1 b2 => by rw [zz_upo, if_neg (by omega)])
          have h4 : sy_up S2 400 6 (nI (zs_seed t)) 400 4 = v 4 := by rw [← hv3]; rfl
          have h5 : sy_up S2 400 6 (nI (zs_seed t)) 400 5 = v 5 := by rw [← hv3]; rfl
          obtain ⟨b1, b2⟩ := zq_isSon hm3 hw hj
          rw [hv3, h4, h5] at b1 b2
          have h6 : sy_up S2 400 6 (nI (zs_seed t)) 400 6 = nI (zs_seed t) := by rw [zz_upo, if_pos rfl]
          have fr : ∀ x y, ¬ x = 400 → sy_up S2 400 6 (nI (zs_seed t)) x y = S2 x y := fun x y hx => by rw [r0 x hx]
          by_cases hold : v 4 = nI j ∨ v 5 = nI j
          · rw [b2 (fun z => z.2 (hold.elim (fun y => Or.inl y.symm) (fun y => Or.inr y.symm))), zz_some, zz_i]
            refine ⟨fun _ => ?_, fun z => absurd rfl z⟩
            rw [zz_c, zq_holds, h4, h5, if_pos (hold.elim (fun y => Or.inl y.symm) (fun y => Or.inr y.symm)), zz_some, zz_i]
            refine ⟨fun z => absurd z (by decide), fun _ => ?_⟩
            exact fin _ v (zs_seed t) (zs_if_t hold) fr hv3 h6
          · have hold2 : ¬ (nI j = v 4 ∨ nI j = v 5) := fun z => hold (z.elim (fun y => Or.inl y.symm) (fun y => Or.inr y.symm))
            by_cases hson : zs_son e v j
            · rw [b1 ⟨hson, hold2⟩, zz_some, zz_i]
              refine ⟨fun z => absurd z (by decide), fun _ => ?_⟩
              rw [zz_c]
              refine zz_mono (zq_takesIt (j := j)) (fun r3 S4 ⟨f4, k4, k6⟩ => ?_)
              refine fin S4 (zs_hand v j) (zs_seed t) (by rw [zs_if_f hold, zs_if_t hson]) (fun x y hx => by rw [f4 x (by omega), fr x y hx]) (by rw [k4, hv3]) (by rw [k6, h6])
            · rw [b2 (fun z => hson z.1), zz_some, zz_i]
              refine ⟨fun _ => ?_, fun z => absurd rfl z⟩
              rw [zz_c, zq_holds, h4, h5, if_neg hold2, zz_some, zz_i]
              refine ⟨fun _ => ?_, fun z => absurd rfl z⟩
              rw [zz_c, show (3 : Int32) = nI 3 from rfl, zq_draw (s := zs_seed t) h6 (zs_seed_lt t) (by omega) (by omega), zz_some, zz_c]
              have hx := zs_pick_lt (s := zs_seed (zs_seed t)) (n := 3) (by omega)
              generalize zs_pick (zs_seed (zs_seed t)) 3 = x at hx fin ⊢
              have hm4 : ze_M (sy_up (sy_up S2 400 6 (nI (zs_seed t))) 400 6 (nI (zs_seed (zs_seed t)))) e wc M := zd_eM (fun x j dd => by rw [zz_up1 (by omega)]) hm3
              have hv4 : zv_M (sy_up (sy_up S2 400 6 (nI (zs_seed t))) 400 6 (nI (zs_seed (zs_seed t)))) 400 0 = v := by rw [← hv3]; exact zv_Mc (fun j b1 b2 => by rw [zz_upo, if_neg (by omega)])
              obtain ⟨d1, d2⟩ := zq_offers (a := 400) hm4 hw hj hx (by rw [hv4]; exact hDW.1.1.2.2.2.2.2 j hj)
              rw [hv4] at d1 d2
              by_cases hfa : zs_falls e v j x
              · refine zz_mono (d1 hfa) (fun r3 S4 ⟨_, f4, k4, k6⟩ => ?_)
                refine fin S4 (zs_trick v j x) (zs_seed (zs_seed t)) (by rw [zs_if_f hold, zs_if_f hson, zs_if_t hfa]) (fun y z hy => by rw [f4 y (by omega), zz_up1 hy, fr y z hy]) k4 (by rw [k6, zz_upo, if_pos rfl])
              · rw [d2 hfa, zz_some]
                exact fin _ v (zs_seed (zs_seed t)) (by rw [zs_if_f hold, zs_if_f hson, zs_if_f hfa]) (fun y z hy => by rw [zz_up1 hy, fr y z hy]) hv4 (by rw [zz_upo, if_pos rfl])
      · have hi3 : i < N := by
          rcases Nat.lt_or_ge i N with q | q
          · exact q
          · exact absurd (nI_le q (by omega)) hnle
        have hc1 : ze_C S1 e wc M := zd_eC (fun x b1 b2 => funext fun y => hf x y (by unfold zd_C2 zd_hC; omega)) hcl
        have hDW := DW i
        have hstep : zs_drs e wc M (a, s) (i + 1) = zs_dr e wc M (zs_drs e wc M (a, s) i) := rfl
        generalize zs_drs e wc M (a, s) i = d at hz hzs hDW hstep
        obtain ⟨⟨v, n, q⟩, t⟩ := d
        simp only at hz hzs hDW
        rw [zz_c]
        refine zz_mono (zp_passByDraw (c := c + i) hc1 hw hh.2 hz.1 hDW.1.1 hzs hDW.2) (fun r S2 ⟨f2, k2, s2⟩ => ?_)
        have hc2 : ze_C S2 e wc M := zd_eC (fun x b1 b2 => funext fun y => f2 x y (by unfold zd_by; omega)) hc1
        have hz2 : za_C S2 ((zs_by e M v t).1, n, q) := by
          obtain ⟨b1, nx, b2, b3, b4, b5⟩ := hz
          refine ⟨k2, nx, b2, by rw [f2 55 1 (by unfold zd_by; omega)]; exact b3, by rw [f2 55 2 (by unfold zd_by; omega)]; exact b4, fun x hx => ?_⟩
          rw [← b5 x hx]
          exact zv_Kc (fun y j h1 h2 => f2 y j (by unfold zd_by; omega))
        rw [zz_c]
        refine zz_mono (zp_letHourPass (c := c + i) hc2 hw hz2 ⟨zs_by_W hw.2.1 hh.2 hDW.1.1, hDW.1.2⟩ (by omega)) (fun r S3 ⟨f3, a3⟩ => ?_)
        simp only [zz_b, nI_1]
        refine hk (i + 1, S3) ⟨by simp only; omega, fun x y dd => ?_, ?_, ?_⟩ (by simp only; omega)
        · simp only
          unfold zd_C2 at dd
          rw [f3 x (fun z => dd (Or.inl z)), f2 x y (fun z => dd (by unfold zd_by at z; unfold zd_hC; omega)), hf x y dd]
        · simp only; rw [hstep]; exact a3
        · simp only; rw [hstep, f3 0 (by unfold zd_hC; omega), s2]; rfl
    · refine zo_two (r := -1000000003) (S1 := S) (S2 := S) ?_ ?_ gs
      · unfold m_Top_drift
        rw [if_neg (by grind), if_pos hn.2, zp_isWhole hcl hw, if_neg hh]; rfl
      · unfold m_Model_drift
        rw [zq_in_t hn.1 hn.2]
        simp only [sy_c, zq_isHere hm hw, if_neg hh]; rfl
  · refine zo_two (r := -1000000002) (S1 := S) (S2 := S) ?_ ?_ gs
    · unfold m_Top_drift
      by_cases q : n < 1
      · rw [if_pos q]
      · rw [if_neg q, if_neg (by grind)]
    · unfold m_Model_drift; rw [zq_in_f hn]; rfl
