/-! ===== the search of the class, by prefixes: SEEN ===== -/
def zr_L (S : sy_St) (e : Nat → Nat → Int32) (wc M n : Nat) (v sg : Nat → Int32) (d p : Nat) : Prop :=
  ze_C S e wc M ∧ S 374 4 = nI n ∧ (∀ i, i < n → S 377 i = sg i) ∧ (∀ i, i < d → S 375 i = nI (zs_dig M d p i)) ∧ (∀ q, q < 6 → S 376 q = nI (zs_cnt (zs_dig M d p) q d)) ∧ (d < n → zv_K S (10 + 5 * d) = zs_run e wc M v (zs_dig M d p) d)
theorem zr_eC {S S1 : sy_St} {e : Nat → Nat → Int32} {wc M : Nat} (h : ∀ i, 1 ≤ i → i ≤ 8 → S1 i = S i) (he : ze_C S e wc M) : ze_C S1 e wc M := by
  unfold ze_C at he ⊢
  rw [h 1 (by omega) (by omega), h 2 (by omega) (by omega), h 3 (by omega) (by omega), h 4 (by omega) (by omega), h 5 (by omega) (by omega), h 6 (by omega) (by omega), h 7 (by omega) (by omega), h 8 (by omega) (by omega)]
  exact he
theorem zr_L_f {S S1 : sy_St} {e : Nat → Nat → Int32} {wc M n : Nat} {v sg : Nat → Int32} {d p : Nat} (hn : n ≤ 5) (h : zr_L S e wc M n v sg d p) (f : zr_f S S1 d) : zr_L S1 e wc M n v sg d p := by
  obtain ⟨l1, l2, l3, l4, l5, l6⟩ := h
  obtain ⟨f1, f2, f3⟩ := f
  refine ⟨zr_eC (fun i a b => f1 i (by omega) (by omega) (by omega) (by omega)) l1, by rw [f2 4 (by omega) (by omega), l2], fun i hi => by rw [f1 377 (by omega) (by omega) (by omega) (by omega)]; exact l3 i hi, fun i hi => by rw [f3 i hi]; exact l4 i hi, fun q hq => by rw [f1 376 (by omega) (by omega) (by omega) (by omega)]; exact l5 q hq, fun hd => ?_⟩
  rw [← l6 hd]
  exact zv_Kc (fun i j a b => by rw [f1 i (by omega) (by omega) (by omega) (by omega)])
theorem zp_fits_s {S : sy_St} {d : Nat} {p low : Int32} (hd : d < 5) : m_Seen_fits (nI d) p low S = some (if low = S 377 d then 1 else 0, S) := by
  unfold m_Seen_fits sy_g
  rw [if_pos (zz_in hd (by omega)), zz_cl (by omega)]
  by_cases h : low = S 377 d
  · rw [if_pos h, if_pos h]
  · rw [if_neg h, if_neg h]
theorem zp_goOn_s {e : Nat → Nat → Int32} {wc M n c0 : Nat} {v sg : Nat → Int32} {all : Int32} (hw : ze_W e wc M) (h0 : 0 < M) (hn : n ≤ 5) (hv : zv_W v M c0) (hc0 : c0 < 1000000) (hall : ∀ x, zs_or (zs_dig M n x) n &&& all = zs_or (zs_dig M n x) n) :
    ∀ (k d fuel p : Nat) (S : sy_St), n = d + k → k < fuel → p < M ^ d → zr_L S e wc M n v sg d p → (∀ i, i < d → zs_run e wc M v (zs_dig M d p) (i + 1) 1 = sg i) → zr_A S (fun c => zs_asSeen e wc M v (zs_dig M n c) n sg) (fun x => zs_or (zs_dig M n x) n) all M n (p * M ^ k) →
      zz_wp (sy_fix (fun _ _ => none) m_Rows_goOn_s_R fuel (nI d) S) (fun _ S1 => zr_f S S1 d ∧ zr_A S1 (fun c => zs_asSeen e wc M v (zs_dig M n c) n sg) (fun x => zs_or (zs_dig M n x) n) all M n ((p + 1) * M ^ k)) := by
  have h6 := hw.2.1
  intro k
  induction k with
  | zero =>
    intro d fuel p S hd hf hp hL hs hA
    obtain ⟨f, rfl⟩ : ∃ f, fuel = f + 1 := ⟨fuel - 1, by omega⟩
    have hdn : d = n := by omega
    subst hdn
    obtain ⟨l1, l2, l3, l4, l5, -⟩ := hL
    show zz_wp (m_Rows_goOn_s_R _ (nI d) S) _
    unfold m_Rows_goOn_s_R
    rw [zz_i, l2]
    refine ⟨fun h => absurd h (nI_nlt (Nat.le_refl _) (by omega)), fun _ => ?_⟩
    rw [zz_c]
    rw [Nat.pow_zero, Nat.mul_one] at hA ⊢
    have hpb : p < 10000 := Nat.lt_of_lt_of_le hp (Nat.le_of_lt (zs_powM M (by omega) d (by omega)))
    refine zz_mono (zp_endRow_s h6 h0 hn hpb hs hall l4 l5 hA) (fun r S1 q => ?_)
    rw [zz_some]
    exact q
  | succ k ih =>
    intro d fuel p S hd hf hp hL hs hA
    obtain ⟨f, rfl⟩ : ∃ f, fuel = f + 1 := ⟨fuel - 1, by omega⟩
    show zz_wp (m_Rows_goOn_s_R _ (nI d) S) _
    unfold m_Rows_goOn_s_R
    rw [zz_i, hL.2.1]
    refine ⟨fun _ => ?_, fun h => absurd (nI_lt (show d < n by omega) (by omega)) h⟩
    refine zz_loopX (ap := fun (kk : zt_2) (u : Nat × sy_St) => kk (nI d) (nI u.1) u.2) (fun u => M - u.1) (fun u => u.1 ≤ M ∧ zr_f S u.2 d ∧ zr_A u.2 (fun c => zs_asSeen e wc M v (zs_dig M n c) n sg) (fun x => zs_or (zs_dig M n x) n) all M n ((p * M + u.1) * M ^ k)) ?_ sy_F (0, S) (zz_F (by simp only; omega)) ⟨by simp only; omega, zr_f_refl, by simp only; rw [zs_ch0]; exact hA⟩
    rintro kk ⟨j, T⟩ ⟨hj, hfr, hA2⟩ hk
    simp only at hj hfr hA2 hk ⊢
    have hL2 := zr_L_f hn hL hfr
    obtain ⟨l1, l2, l3, l4, l5, l6⟩ := hL2
    unfold m_Rows_goOn_s_B15
    rw [zz_i, l1.2.1]
    refine ⟨fun hle => ?_, fun hnle => ?_⟩
    · have := nI_eq_of hle hj (by omega)
      subst this
      rw [zz_some]
      rw [zs_chM] at hA2
      exact ⟨hfr, hA2⟩
    have hj2 := nI_lt_of hnle (by omega) (by omega)
    have hd5 : d < 5 := by omega
    have l6' := l6 (by omega)
    have hdigs : ∀ i, i < d → zs_dig M d p i < M := fun i _ => zs_dig_lt h0
    have hWd : zv_W (zs_run e wc M v (zs_dig M d p) d) M (c0 + d) := zs_run_W hw hv hdigs d (Nat.le_refl _)
    have cd : (nI d).toNatClampNeg = d := zz_cl (by omega)
    have cj : (nI j).toNatClampNeg = j := zz_cl (by omega)
    rw [zz_g, zz_c]
    refine ⟨zz_in hd5 (by omega), ?_⟩
    rw [show 10 + 5 * (nI d).toNatClampNeg = 10 + 5 * d by rw [cd], zp_lowBehind (c := c0 + d) l1 hw (by rw [l6']; exact hWd.1) (by omega) (Or.inr ⟨j, hj2, rfl⟩) (Or.inl rfl), l6', zz_some, zz_c, zp_fits_s hd5, zz_some]
    have hlow : zs_run e wc M v (zs_dig M (d + 1) (p * M + j)) (d + 1) 1 = zs_low e wc (zs_run e wc M v (zs_dig M d p) d) (nI j) (-1) 0 := by
      rw [zs_run_ch hj2, zs_step_e (by omega), zs_end_1]
    have hstep : zs_run e wc M v (zs_dig M (d + 1) (p * M + j)) (d + 1) = zs_end e (zs_hand (zs_run e wc M v (zs_dig M d p) d) j) (zs_low e wc (zs_run e wc M v (zs_dig M d p) d) (nI j) (-1) 0) M := by
      rw [zs_run_ch hj2, zs_step_e (by omega)]
    generalize zs_low e wc (zs_run e wc M v (zs_dig M d p) d) (nI j) (-1) 0 = low at hlow hstep ⊢
    rw [l3 d (by omega), zz_i]
    refine ⟨fun h => ?_, fun h => ?_⟩
    · have hne : ¬ low = sg d := fun x => by rw [if_pos x] at h; exact absurd h (by decide)
      rw [zz_b, nI_1]
      refine hk (j + 1, T) ⟨by simp only; omega, hfr, ?_⟩ (by simp only; omega)
      simp only
      refine zr_A_skip zs_chs (fun c c1 c2 g => hne ?_) hA2
      rw [← hlow, ← zs_run_pre (v := v) (wc := wc) (e := e) (n := n) (k := k) (d := d + 1) (c := c) (by omega) c1 c2 (Nat.le_refl _)]
      exact g d (by omega)
    · have hsd : low = sg d := by
        by_cases x : low = sg d
        · exact x
        · rw [if_neg x] at h; exact absurd rfl h
      rw [zz_g, zz_b, zz_g, zz_g, zz_b]
      simp only [cd, cj]
      refine ⟨zz_in hd5 (by omega), zz_in (by omega) (by omega), zz_in (by omega) (by omega), ?_⟩
      obtain ⟨T2, hT2⟩ : ∃ T2, T2 = sy_up (sy_up T 375 d (nI j)) 376 j (sy_up T 375 d (nI j) 376 j + 1) := ⟨_, rfl⟩
      rw [← hT2]
      have t1 : ∀ i, i ≠ 375 → i ≠ 376 → T2 i = T i := fun i a b => by rw [hT2, zz_up1 b, zz_up1 a]
      have t2 : ∀ x, T2 375 x = if x = d then nI j else T 375 x := fun x => by rw [hT2, zz_up1 (by omega), zz_upo]
      have t3 : ∀ x, T2 376 x = if x = j then T 376 j + 1 else T 376 x := fun x => by rw [hT2, zz_upo, zz_up1 (show (376 : Nat) ≠ 375 by omega)]
      have hjlt : p * M + j < M ^ (d + 1) := by
        rw [Nat.pow_succ]
        have : p * M + M ≤ M ^ d * M := by rw [show p * M + M = (p + 1) * M by rw [Nat.add_mul, Nat.one_mul]]; exact Nat.mul_le_mul_right _ hp
        omega
      have hs2 : ∀ i, i < d + 1 → zs_run e wc M v (zs_dig M (d + 1) (p * M + j)) (i + 1) 1 = sg i := fun i hi => by
        by_cases x : i = d
        · subst x; rw [hlow, hsd]
        · rw [zs_run_c (d := d) (dg2 := zs_dig M d p) (fun y hy => zs_dig_ch hj2 hy) (i + 1) (by omega)]
          exact hs i (by omega)
      have hJ : ∀ U : sy_St, (∀ i, i ≠ 375 → i ≠ 376 → (i < 10 + 5 * (d + 1) ∨ 34 < i) → U i = T i) → (∀ x, x < d + 1 → U 375 x = T2 375 x) → U 376 = T2 376 → (d + 1 < n → zv_K U (10 + 5 * (d + 1)) = zs_run e wc M v (zs_dig M (d + 1) (p * M + j)) (d + 1)) → zz_wp (m_Rows_goOn_s_J86 (sy_fix (fun _ _ => none) m_Rows_goOn_s_R f) kk (nI d) (nI j) U) (fun _ S1 => zr_f S S1 d ∧ zr_A S1 (fun c => zs_asSeen e wc M v (zs_dig M n c) n sg) (fun x => zs_or (zs_dig M n x) n) all M n ((p + 1) * M ^ (k + 1))) := by
        intro U u1 u2 u3 u4
        have hLU : zr_L U e wc M n v sg (d + 1) (p * M + j) := by
          refine ⟨zr_eC (fun i a b => u1 i (by omega) (by omega) (by omega)) l1, by rw [u1 374 (by omega) (by omega) (by omega), l2], fun i hi => by rw [u1 377 (by omega) (by omega) (by omega)]; exact l3 i hi, fun i hi => ?_, fun q hq => ?_, u4⟩
          · rw [u2 i hi, t2]
            by_cases x : i = d
            · subst x; rw [if_pos rfl, zs_dig_last hj2]
            · rw [if_neg x, l4 i (by omega), zs_dig_ch hj2 (by omega)]
          · rw [u3, t3, zs_cnt_ch hj2]
            by_cases x : q = j
            · subst x; rw [if_pos rfl, if_pos rfl, l5 q hq, nI_1]
            · rw [if_neg x, if_neg (fun y => x y.symm), l5 q hq, Nat.add_zero]
        unfold m_Rows_goOn_s_J86
        rw [zz_c, nI_1]
        refine zz_mono (ih (d + 1) f (p * M + j) U (by omega) (by omega) hjlt hLU hs2 (zr_A_f (by rw [u1 374 (by omega) (by omega) (by omega)]) (by rw [u1 374 (by omega) (by omega) (by omega)]) (u1 378 (by omega) (by omega) (by omega)) hA2)) (fun r U2 ⟨g, gA⟩ => ?_)
        rw [zz_g, zz_g, zz_b, zz_b, nI_1]
        simp only [cj]
        refine ⟨zz_in (by omega) (by omega), zz_in (by omega) (by omega), ?_⟩
        have g376 : U2 376 = T2 376 := by rw [g.1 376 (by omega) (by omega) (by omega) (by omega), u3]
        refine hk (j + 1, sy_up U2 376 j (U2 376 j - 1)) ⟨by simp only; omega, zr_f_trans hfr ⟨fun i a b c x => ?_, fun x a b => ?_, fun x hx => ?_⟩, ?_⟩ (by simp only; omega)
        · simp only
          by_cases y : i = 376
          · subst y
            funext z
            rw [zz_upo, g376, t3, t3, if_pos rfl]
            by_cases zz : z = j
            · subst zz; rw [if_pos rfl, Int32.add_sub_cancel]
            · rw [if_neg zz, if_neg zz]
          · rw [zz_up1 y, g.1 i a b c (by omega), u1 i b y x]
        · simp only
          rw [zz_up1 (by omega), g.2.1 x a b, u1 374 (by omega) (by omega) (by omega)]
        · simp only
          rw [zz_up1 (by omega), g.2.2 x (by omega), u2 x (by omega), t2, if_neg (by omega)]
        · simp only
          refine zr_A_f ?_ ?_ ?_ gA
          · rw [zz_up1 (by omega)]
          · rw [zz_up1 (by omega)]
          · rw [zz_up1 (by omega)]
      rw [zz_i, t1 374 (by omega) (by omega), l2, nI_1]
      refine ⟨fun hle => ?_, fun hnle2 => ?_⟩
      · have : n ≤ d + 1 := (nI_leI (by omega) (by omega)).mp hle
        exact hJ T2 (fun i a b _ => t1 i a b) (fun _ _ => rfl) rfl (fun x => absurd x (by omega))
      · have hlt := nI_lt_of hnle2 (by omega) (by omega)
        rw [zz_c]
        refine zz_mono (zp_standBehind_s (S := T2) (zr_eC (fun i a b => t1 i (by omega) (by omega)) l1) hw (by omega)) (fun r U ⟨u1, u2⟩ => ?_)
        refine hJ U (fun i a b x => ?_) (fun x _ => ?_) ?_ (fun _ => ?_)
        · rw [u1 i (by omega), t1 i a b]
        · rw [u1 375 (by omega)]
        · rw [u1 376 (by omega)]
        · rw [u2, hstep, ← l6']
          congr 2
          exact zv_Kc (fun i y a b => by rw [t1 i (by omega) (by omega)])
