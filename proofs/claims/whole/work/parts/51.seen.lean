def zs_asSeen (e : Nat → Nat → Int32) (wc M : Nat) (v : Nat → Int32) (dg : Nat → Nat) (n : Nat) (sg : Nat → Int32) : Prop := ∀ i, i < n → zs_run e wc M v dg (i + 1) 1 = sg i
theorem zq_isAsSeen {S : sy_St} {e : Nat → Nat → Int32} {wc M c n : Nat} {dg : Nat → Nat} {sg : Nat → Int32} (hm : ze_M S e wc M) (hw : ze_W e wc M) (hW : zv_W (zv_M S 400 0) M c) (hc : c < 1000000) (hn : n ≤ 5) (h28 : S 392 28 = nI n) (hs : ∀ i, i < n → S 405 i = sg i) (hd : ∀ i, i < n → dg i < M ∧ S 407 i = nI (dg i)) : zz_wp (m_Model_isAsSeen S) (fun r S1 => zf_o S S1 401 401 ∧ ((zs_asSeen e wc M (zv_M S 400 0) dg n sg ∧ r = 1) ∨ (¬ zs_asSeen e wc M (zv_M S 400 0) dg n sg ∧ r = 0))) := by
  unfold m_Model_isAsSeen
  rw [zz_c]
  refine zz_mono (zq_copyV (a := 400) (b := 401) (by omega)) (fun _ S1 ⟨f1, k1⟩ => ?_)
  refine zz_loopX (ap := fun (k : zt_1) (u : Nat × sy_St) => k (nI u.1) u.2) (fun u => n - u.1) (fun u => u.1 ≤ n ∧ zf_o S u.2 401 401 ∧ zv_M u.2 401 0 = zs_run e wc M (zv_M S 400 0) dg u.1 ∧ ∀ i, i < u.1 → zs_run e wc M (zv_M S 400 0) dg (i + 1) 1 = sg i) ?_ sy_F (0, S1) (zz_F (by simp only; omega)) ⟨by simp only; omega, f1, by simp only; rw [k1]; rfl, fun i hi => absurd hi (by simp only; omega)⟩
  rintro k ⟨i, S2⟩ ⟨hi, hf, hk2, hl⟩ hk
  simp only at hi hf hk2 hl hk ⊢
  unfold m_Model_isAsSeen_B15
  rw [zz_i, hf 392 (by omega), h28]
  refine ⟨fun hle => ?_, fun hnle => ?_⟩
  · have := nI_eq_of hle hi (by omega)
    subst this
    rw [zz_some]
    exact ⟨hf, Or.inl ⟨hl, rfl⟩⟩
  · have hi2 := nI_lt_of hnle (by omega) (by omega)
    obtain ⟨d1, d2⟩ := hd i hi2
    rw [zz_g, zz_b, zz_b, zz_c, hf 407 (by omega)]
    simp only [zz_cl (show i < 2147483648 by omega), d2]
    refine ⟨zz_in (by omega) (by omega), ?_⟩
    have hm2 : ze_M S2 e wc M := zd_eM (fun x j d => by rw [hf x (by omega)]) hm
    refine zz_mono (zq_hourOf (c := c + i) hm2 hw d1 (by rw [hk2]; exact zs_run_W hw hW (fun x hx => (hd x hx).1) i (by omega)) (by omega)) (fun _ S3 ⟨f3, k3⟩ => ?_)
    rw [hk2] at k3
    have e1 : S3 401 ((1 : Int32).toNatClampNeg) = zs_run e wc M (zv_M S 400 0) dg (i + 1) 1 := by
      show zv_M S3 401 0 1 = _
      rw [k3]; rfl
    rw [zz_g, zz_i, e1, f3 405 (by omega), hf 405 (by omega), hs i hi2]
    refine ⟨zz_in (by omega) (by omega), fun h => ?_, fun h => ?_⟩
    · rw [zz_b, nI_1]
      refine hk (i + 1, S3) ⟨by simp only; omega, zf_trans hf f3, k3, fun x hx => ?_⟩ (by simp only; omega)
      simp only at hx
      by_cases q : x = i
      · subst q; exact h
      · exact hl x (by omega)
    · rw [zz_some]
      exact ⟨zf_trans hf f3, Or.inr ⟨fun z => h (z i hi2), rfl⟩⟩
