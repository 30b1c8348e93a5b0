/-! ===== a row from now on: the reference's runs ===== -/
def zs_run (e : Nat → Nat → Int32) (wc M : Nat) (v : Nat → Int32) (dg : Nat → Nat) : Nat → Nat → Int32
  | 0 => v
  | i + 1 => zs_step e wc M (zs_run e wc M v dg i) (dg i)
theorem zs_run_W {e : Nat → Nat → Int32} {v : Nat → Int32} {wc M c n : Nat} {dg : Nat → Nat} (hw : ze_W e wc M) (hv : zv_W v M c) (hd : ∀ i, i < n → dg i < M) : ∀ i, i ≤ n → zv_W (zs_run e wc M v dg i) M (c + i) := by
  intro i
  induction i with
  | zero => intro _; exact hv
  | succ i ih => intro h; exact zs_step_W hw (ih (by omega)) (hd i (by omega))
/-- one hour of it on the reference's trial row -/
theorem zq_hourOf {S : sy_St} {e : Nat → Nat → Int32} {wc M c j : Nat} (hm : ze_M S e wc M) (hw : ze_W e wc M) (hj : j < M) (hW : zv_W (zv_M S 401 0) M c) (hc : c < 2147483648) : zz_wp (m_Model_pass 401 31 0 (sy_up (sy_up S 401 4 (nI j)) 401 5 (-1))) (fun _ S1 => zf_o S S1 401 401 ∧ zv_M S1 401 0 = zs_step e wc M (zv_M S 401 0) j) := by
  obtain ⟨S2, hS2⟩ : ∃ S2, S2 = sy_up (sy_up S 401 4 (nI j)) 401 5 (-1) := ⟨_, rfl⟩
  rw [← hS2]
  have f2 : zf_o S S2 401 401 := by rw [hS2]; exact zf_trans zf_up zf_up
  have k2 : zv_M S2 401 0 = zs_hand (zv_M S 401 0) j := by
    rw [hS2]
    funext x
    unfold zs_hand upd zv_M
    simp only [zz_up]
    by_cases h6 : x = 6
    · subst h6; simp
    · by_cases h31 : x < 31
      · by_cases h5 : x = 5
        · subst h5; simp
        · by_cases h4 : x = 4
          · subst h4; simp
          · simp [h6, h31, h5, h4]
      · have h5 : x ≠ 5 := by omega
        have h4 : x ≠ 4 := by omega
        simp [h6, h31, h5, h4]
  refine zz_mono (zq_pass (a := 401) (c := c) (less := 0) (by omega) (zd_eM (fun x j d => by rw [f2 x (by omega)]) hm) hw (by omega) (by rw [k2]; exact zs_hand_W hW hj) hc) (fun _ S3 ⟨f3, k3, _⟩ => ⟨zf_trans f2 f3, by rw [k3, k2]; rfl⟩)
def zs_goes (e : Nat → Nat → Int32) (wc M : Nat) (v : Nat → Int32) (dg : Nat → Nat) (n : Nat) (lim : Int32) (g : Nat) : Prop := g ≤ n ∧ (∀ i, i < g → zs_run e wc M v dg (i + 1) 1 ≤ lim) ∧ (g < n → ¬ zs_run e wc M v dg (g + 1) 1 ≤ lim)
theorem zq_goesFor {S : sy_St} {e : Nat → Nat → Int32} {wc M c n : Nat} {lim : Int32} {dg : Nat → Nat} (hm : ze_M S e wc M) (hw : ze_W e wc M) (hW : zv_W (zv_M S 400 0) M c) (hc : c < 1000000) (hn : n ≤ 5) (hd : ∀ i, i < n → dg i < M ∧ S 407 i = nI (dg i)) : zz_wp (m_Model_goesFor (nI n) lim S) (fun r S1 => zf_o S S1 401 401 ∧ ∃ g, r = nI g ∧ zs_goes e wc M (zv_M S 400 0) dg n lim g) := by
  unfold m_Model_goesFor
  rw [zz_c]
  refine zz_mono (zq_copyV (a := 400) (b := 401) (by omega)) (fun _ S1 ⟨f1, k1⟩ => ?_)
  refine zz_loopX (ap := fun (k : zt_3) (u : Nat × sy_St) => k (nI n) lim (nI u.1) u.2) (fun u => n - u.1) (fun u => u.1 ≤ n ∧ zf_o S u.2 401 401 ∧ zv_M u.2 401 0 = zs_run e wc M (zv_M S 400 0) dg u.1 ∧ ∀ i, i < u.1 → zs_run e wc M (zv_M S 400 0) dg (i + 1) 1 ≤ lim) ?_ sy_F (0, S1) (zz_F (by simp only; omega)) ⟨by simp only; omega, f1, by simp only; rw [k1]; rfl, fun i hi => absurd hi (by simp only; omega)⟩
  rintro k ⟨i, S2⟩ ⟨hi, hf, hk2, hl⟩ hk
  simp only at hi hf hk2 hl hk ⊢
  unfold m_Model_goesFor_B15
  rw [zz_i]
  refine ⟨fun hle => ?_, fun hnle => ?_⟩
  · have := nI_eq_of hle hi (by omega)
    subst this
    rw [zz_some]
    exact ⟨hf, i, rfl, Nat.le_refl _, hl, fun z => by omega⟩
  · have hi2 := nI_lt_of hnle (by omega) (by omega)
    obtain ⟨d1, d2⟩ := hd i hi2
    rw [zz_g, zz_b, zz_b, zz_c, zz_cl (by omega), hf 407 (by omega), d2]
    refine ⟨zz_in (by omega) (by omega), ?_⟩
    have hm2 : ze_M S2 e wc M := zd_eM (fun x j d => by rw [hf x (by omega)]) hm
    refine zz_mono (zq_hourOf (c := c + i) hm2 hw d1 (by rw [hk2]; exact zs_run_W hw hW (fun x hx => (hd x hx).1) i (by omega)) (by omega)) (fun _ S3 ⟨f3, k3⟩ => ?_)
    rw [hk2] at k3
    have e1 : S3 401 ((1 : Int32).toNatClampNeg) = zs_run e wc M (zv_M S 400 0) dg (i + 1) 1 := by
      show zv_M S3 401 0 1 = _
      rw [k3]; rfl
    rw [zz_i, e1]
    refine ⟨fun h => ?_, fun h => ?_⟩
    · rw [zz_b, nI_1]
      refine hk (i + 1, S3) ⟨by simp only; omega, zf_trans hf f3, k3, fun x hx => ?_⟩ (by simp only; omega)
      simp only at hx
      by_cases q : x = i
      · subst q; exact h
      · exact hl x (by omega)
    · rw [zz_some]
      exact ⟨zf_trans hf f3, i, rfl, hi, hl, fun _ => h⟩
