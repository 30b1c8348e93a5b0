/-! ===== one hour with person j alone before the whole ===== -/
def zs_step (e : Nat → Nat → Int32) (wc M : Nat) (v : Nat → Int32) (j : Nat) : Nat → Int32 := zs_pass e wc M 0 (zs_hand v j)
theorem zs_hand_o {v : Nat → Int32} {j x : Nat} (h4 : x ≠ 4) (h5 : x ≠ 5) : zs_hand v j x = v x := by
  unfold zs_hand upd
  rw [if_neg h5, if_neg h4]
theorem zs_step_W {e : Nat → Nat → Int32} {v : Nat → Int32} {wc M c j : Nat} (hw : ze_W e wc M) (hv : zv_W v M c) (hj : j < M) : zv_W (zs_step e wc M v j) M (c + 1) := zs_pass_W hw (zs_hand_W hv hj) (by decide)
theorem zs_force_hand {e : Nat → Nat → Int32} {v : Nat → Int32} {j p : Nat} (hp : p < 6) : zs_force e (zs_hand v j) p = zs_force e v p := by
  unfold zs_force
  rw [zs_hand_o (x := 19 + p) (by omega) (by omega), zs_hand_o (x := 3) (by omega) (by omega), zs_hand_o (x := 7 + p) (by omega) (by omega), zs_hand_o (x := 0) (by omega) (by omega)]
theorem zs_low_hand {e : Nat → Nat → Int32} {v : Nat → Int32} {wc j : Nat} (hj : j < 6) : zs_low e wc (zs_hand v j) (zs_hand v j 4) (zs_hand v j 5) 0 = zs_low e wc v (nI j) (-1) 0 := by
  have h4 : zs_hand v j 4 = nI j := rfl
  have h5 : zs_hand v j 5 = -1 := rfl
  have hf : ∀ x : Int32, (x = -1 ∨ x = nI j) → zs_forceI e (zs_hand v j) x = zs_forceI e v x := fun x hx => by
    unfold zs_forceI
    rcases hx with rfl | rfl
    · rw [if_pos rfl, if_pos rfl]
    · rw [if_neg (nI_ne1 (by omega)), if_neg (nI_ne1 (by omega)), zz_cl (by omega), zs_force_hand hj]
  have h1 : zs_hand v j 1 = v 1 := zs_hand_o (by omega) (by omega)
  have hwt : zs_weight e wc (zs_hand v j) = zs_weight e wc v := by
    unfold zs_weight
    rw [zs_hand_o (x := 0) (by omega) (by omega)]
  unfold zs_low
  rw [h4, h5, hwt, h1, hf _ (Or.inr rfl), hf _ (Or.inl rfl)]
theorem zs_step_e {e : Nat → Nat → Int32} {v : Nat → Int32} {wc M j : Nat} (hj : j < 6) : zs_step e wc M v j = zs_end e (zs_hand v j) (zs_low e wc v (nI j) (-1) 0) M := by
  unfold zs_step zs_pass
  rw [zs_low_hand hj]
theorem zs_end_1 {e : Nat → Nat → Int32} {v : Nat → Int32} {low : Int32} {M : Nat} : zs_end e v low M 1 = low := by
  unfold zs_end upd zs_part
  simp
theorem zp_standBehind_h {S : sy_St} {e : Nat → Nat → Int32} {wc M d j : Nat} {low : Int32} (he : ze_C S e wc M) (hw : ze_W e wc M) (hd : d + 1 < 5) : zz_wp (m_Rows_standBehind_h (nI d) (nI j) low S) (fun _ S1 => zf_o S S1 (10 + 5 * (d + 1)) (10 + 5 * (d + 1) + 4) ∧ zv_K S1 (10 + 5 * (d + 1)) = zs_end e (zs_hand (zv_K S (10 + 5 * d)) j) low M) := by
  unfold m_Rows_standBehind_h
  simp only [zz_b, zz_g, nI_1, zz_c, zz_cl (show d + 1 < 2147483648 by omega), zz_cl (show d < 2147483648 by omega)]
  refine ⟨zz_in (by omega) (by omega), zz_in (by omega) (by omega), ?_⟩
  refine zz_mono (zp_copyFrom (k := 10 + 5 * (d + 1)) (a := 10 + 5 * d) (by omega)) (fun _ S1 ⟨f1, k1⟩ => ?_)
  refine zz_mono zp_handTo (fun _ S2 ⟨f2, k2⟩ => ?_)
  have f12 := zf_trans f1 (zf_mono f2 (Nat.le_refl _) (by omega))
  refine zz_mono (zp_endHour (k := 10 + 5 * (d + 1)) (low := low) (by omega) (zf_eC f12 (by omega) he) hw) (fun _ S3 ⟨f3, k3⟩ => ?_)
  rw [zz_some]
  exact ⟨zf_trans f12 f3, by rw [k3, k2, k1]⟩
theorem zp_standBehind_s {S : sy_St} {e : Nat → Nat → Int32} {wc M d j : Nat} {low : Int32} (he : ze_C S e wc M) (hw : ze_W e wc M) (hd : d + 1 < 5) : zz_wp (m_Rows_standBehind_s (nI d) (nI j) low S) (fun _ S1 => zf_o S S1 (10 + 5 * (d + 1)) (10 + 5 * (d + 1) + 4) ∧ zv_K S1 (10 + 5 * (d + 1)) = zs_end e (zs_hand (zv_K S (10 + 5 * d)) j) low M) := zp_standBehind_h he hw hd
