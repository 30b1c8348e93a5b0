abbrev zt_1 : Type := Int32 → sy_St → sy_R
abbrev zt_2 : Type := Int32 → Int32 → sy_St → sy_R
abbrev zt_3 : Type := Int32 → Int32 → Int32 → sy_St → sy_R
abbrev zt_4 : Type := Int32 → Int32 → Int32 → Int32 → sy_St → sy_R
abbrev zt_5 : Type := Int32 → Int32 → Int32 → Int32 → Int32 → sy_St → sy_R
abbrev zt_6 : Type := Int32 → Int32 → Int32 → Int32 → Int32 → Int32 → sy_St → sy_R
/-- a loop, whatever it carries -/
theorem zz_loopX {T σ : Type} {bot : T} {B : T → T} {Q : Int32 → sy_St → Prop} (ap : T → σ → sy_R) (mu : σ → Nat) (I : σ → Prop)
    (step : ∀ (k : T) (s : σ), I s → (∀ s1, I s1 → mu s1 < mu s → zz_wp (ap k s1) Q) → zz_wp (ap (B k) s) Q) :
    ∀ (fuel : Nat) (s : σ), mu s < fuel → I s → zz_wp (ap (sy_fix bot B fuel) s) Q := by
  intro fuel
  induction fuel with
  | zero => intro s h; omega
  | succ f ih => intro s h hI; exact step _ s hI (fun s1 h1 h2 => ih s1 (by omega) h1)
theorem zvK_cp {S : sy_St} {k a : Nat} (h : a + 4 < k ∨ k + 4 < a) : zv_K (sy_cp (sy_cp (sy_cp (sy_cp S (a + 1) (k + 1) 0 0 6) (a + 2) (k + 2) 0 0 6) (a + 3) (k + 3) 0 0 6) (a + 4) (k + 4) 0 0 6) k = fun j => if j < 7 then zv_K S k j else zv_K S a j := by
  have e0 : (0 : Int32).toNatClampNeg = 0 := rfl
  have e6 : (6 : Int32).toNatClampNeg = 6 := rfl
  have q : ∀ i x, sy_cp (sy_cp (sy_cp (sy_cp S (a + 1) (k + 1) 0 0 6) (a + 2) (k + 2) 0 0 6) (a + 3) (k + 3) 0 0 6) (a + 4) (k + 4) 0 0 6 i x = if i = k + 4 then (if x < 6 then S (a + 4) x else S (k + 4) x) else if i = k + 3 then (if x < 6 then S (a + 3) x else S (k + 3) x) else if i = k + 2 then (if x < 6 then S (a + 2) x else S (k + 2) x) else if i = k + 1 then (if x < 6 then S (a + 1) x else S (k + 1) x) else S i x := by
    intro i x
    simp only [zz_cp, e0, e6]
    by_cases hx : x < 6
    · have hx2 : 0 ≤ x ∧ x < 0 + 6 := ⟨by omega, by omega⟩
      simp only [hx, hx2, if_true, Nat.sub_zero, Nat.zero_add, and_self]
      grind
    · have hx2 : ¬ (0 ≤ x ∧ x < 0 + 6) := by omega
      simp only [hx, hx2, if_false]
      grind
  refine zv_ext (fun j hj => ?_) (fun p hp => ?_) (fun p hp => ?_) (fun p hp => ?_) (fun p hp => ?_) (fun j hj => ?_)
  · rw [if_pos hj]
    unfold zv_K
    rw [q k 5, q k 6, q k 7, q k 8, q k 9, q k 10]
    simp only [show ¬ k = k + 4 by omega, show ¬ k = k + 3 by omega, show ¬ k = k + 2 by omega, show ¬ k = k + 1 by omega, if_false, hj, if_true]
  · rw [zvK_t hp, q, if_neg (by omega), if_neg (by omega), if_neg (by omega), if_pos rfl, if_pos hp, if_neg (by omega), zvK_t hp]
  · rw [zvK_h hp, q, if_neg (by omega), if_neg (by omega), if_pos rfl, if_pos hp, if_neg (by omega), zvK_h hp]
  · rw [zvK_u hp, q, if_neg (by omega), if_pos rfl, if_pos hp, if_neg (by omega), zvK_u hp]
  · rw [zvK_f hp, q, if_pos rfl, if_pos hp, if_neg (by omega), zvK_f hp]
  · rw [if_neg (by omega)]
    unfold zv_K
    simp only [show ¬ j = 0 by omega, show ¬ j = 1 by omega, show ¬ j = 2 by omega, show ¬ j = 3 by omega, show ¬ j = 4 by omega, show ¬ j = 5 by omega, show ¬ j < 7 by omega, show ¬ j < 13 by omega, show ¬ j < 19 by omega, show ¬ j < 25 by omega, show ¬ j < 31 by omega, if_false]
theorem zp_copyFrom {S : sy_St} {k a : Nat} (h : a + 4 < k ∨ k + 4 < a) : zz_wp (m_Sky_copyFrom k a S) (fun _ S1 => zf_o S S1 k (k + 4) ∧ zv_K S1 k = zv_K S a) := by
  unfold m_Sky_copyFrom
  simp only [zz_b, zz_some]
  have hc : ∀ (i : Nat), (i < k ∨ k + 4 < i) → sy_cp (sy_cp (sy_cp (sy_cp S (a + 1) (k + 1) 0 0 6) (a + 2) (k + 2) 0 0 6) (a + 3) (k + 3) 0 0 6) (a + 4) (k + 4) 0 0 6 i = S i := fun i hi => by
    funext x
    simp only [zz_cp, show ¬ i = k + 4 by omega, show ¬ i = k + 3 by omega, show ¬ i = k + 2 by omega, show ¬ i = k + 1 by omega, if_false]
  have hv := zvK_cp (S := S) h
  generalize sy_cp (sy_cp (sy_cp (sy_cp S (a + 1) (k + 1) 0 0 6) (a + 2) (k + 2) 0 0 6) (a + 3) (k + 3) 0 0 6) (a + 4) (k + 4) 0 0 6 = S4 at hc hv ⊢
  have ha := hc a (by omega)
  simp only [zz_up1 (show a ≠ k by omega), ha]
  refine ⟨fun i hi => ?_, ?_⟩
  · rw [zz_up1 (by omega), zz_up1 (by omega), zz_up1 (by omega), zz_up1 (by omega), zz_up1 (by omega), zz_up1 (by omega), hc i (by omega)]
  · rw [show (10 : Nat) = 5 + 5 from rfl, zvK_up_s (by omega), show (9 : Nat) = 5 + 4 from rfl, zvK_up_s (by omega), show (8 : Nat) = 5 + 3 from rfl, zvK_up_s (by omega), show (7 : Nat) = 5 + 2 from rfl, zvK_up_s (by omega), show (6 : Nat) = 5 + 1 from rfl, zvK_up_s (by omega), show S a 5 = S a (5 + 0) from rfl, show sy_up S4 k 5 (S a (5 + 0)) = sy_up S4 k (5 + 0) (S a (5 + 0)) from rfl, zvK_up_s (by omega), hv]
    funext j
    by_cases h7 : j < 7
    · have : j = 0 ∨ j = 1 ∨ j = 2 ∨ j = 3 ∨ j = 4 ∨ j = 5 ∨ j = 6 := by omega
      rcases this with rfl | rfl | rfl | rfl | rfl | rfl | rfl <;> rfl
    · simp only [upd]
      rw [if_neg (by omega), if_neg (by omega), if_neg (by omega), if_neg (by omega), if_neg (by omega), if_neg (by omega), if_neg h7]
/-- a row copied in the reference -/
theorem zq_copy {S : sy_St} {a n0 b n2 x y : Nat} (hab : a ≠ b) (h0 : x + 31 ≤ n0) (h2 : y + 31 ≤ n2) (hn0 : n0 < 100000) (hn2 : n2 < 100000) : zz_wp (m_Model_copy a n0 b n2 (nI x) (nI y) S) (fun _ S1 => zf_o S S1 b b ∧ ∀ z, S1 b z = if y ≤ z ∧ z < y + 31 then S a (x + (z - y)) else S b z) := by
  unfold m_Model_copy
  refine zz_loopX (ap := fun (k : zt_3) (s : Nat × sy_St) => k (nI x) (nI y) (nI s.1) s.2) (fun s => 31 - s.1) (fun s => s.1 ≤ 31 ∧ zf_o S s.2 b b ∧ ∀ z, s.2 b z = if y ≤ z ∧ z < y + s.1 then S a (x + (z - y)) else S b z) ?_ sy_F (0, S) (zz_F (by omega)) ⟨by omega, zf_refl, fun z => by rw [if_neg (by simp only; omega)]⟩
  rintro k ⟨i, S1⟩ ⟨hi, hf, hz⟩ hk
  simp only at hi hf hz hk ⊢
  unfold m_Model_copy_B3
  rw [zz_i]
  refine ⟨fun h31 => ?_, fun h31 => ?_⟩
  · have : i = 31 := by
      rcases Nat.lt_or_ge i 31 with q | q
      · exact absurd h31 (by rw [show (31 : Int32) = nI 31 from rfl]; exact nI_ge q (by omega))
      · omega
    subst this
    rw [zz_some]
    exact ⟨hf, hz⟩
  · have hi2 : i < 31 := by
      rcases Nat.lt_or_ge i 31 with q | q
      · exact q
      · exact absurd (by rw [show (31 : Int32) = nI 31 from rfl]; exact nI_le q (by omega)) h31
    simp only [zz_b, zz_g, nI_add, nI_1]
    refine ⟨zz_in (by omega) (by omega), zz_in (by omega) (by omega), ?_⟩
    rw [zz_cl (by omega), zz_cl (by omega), hf a (by omega)]
    refine hk (i + 1, sy_up S1 b (y + i) (S a (x + i))) ⟨by simp only; omega, fun w hw => ?_, fun z => ?_⟩ (by simp only; omega)
    · simp only; rw [zz_up1 (by omega), hf w hw]
    · simp only
      rw [zz_upo, hz]
      by_cases q : z = y + i
      · subst q
        rw [if_pos rfl, if_pos (by omega)]
        congr 1; omega
      · rw [if_neg q]
        by_cases q2 : y ≤ z ∧ z < y + i
        · rw [if_pos q2, if_pos (by omega)]
        · rw [if_neg q2, if_neg (by omega)]
/-! ===== the hours behind ===== -/
abbrev zs_A : Type := (Nat → Int32) × Nat × (Nat → Nat → Int32)
def zs_push (a : zs_A) : Nat × (Nat → Nat → Int32) := if a.2.1 < 60 then (a.2.1 + 1, fun i => if i = a.2.1 then a.1 else a.2.2 i) else (60, fun i => if i = 59 then a.1 else a.2.2 (i + 1))
def zs_hr (e : Nat → Nat → Int32) (wc M : Nat) (a : zs_A) : zs_A := (zs_pass e wc M 0 a.1, zs_push a)
def za_C (S : sy_St) (a : zs_A) : Prop := zv_K S 45 = a.1 ∧ ∃ nx, nx < 60 ∧ S 55 1 = nI a.2.1 ∧ S 55 2 = nI nx ∧ ∀ i, i < a.2.1 → zv_K S (57 + 5 * ((nx + 60 - a.2.1 + i) % 60)) = a.2.2 i
def za_M (S : sy_St) (a : zs_A) : Prop := zv_M S 400 0 = a.1 ∧ S 392 26 = nI a.2.1 ∧ ∀ i, i < a.2.1 → zv_M S 404 (31 * i) = a.2.2 i
def za_W (a : zs_A) (M c : Nat) : Prop := zv_W a.1 M c ∧ a.2.1 ≤ 60 ∧ ∀ i, i < a.2.1 → zv_W (a.2.2 i) M c
theorem za_of {S : sy_St} {M c : Nat} (h1 : zi_now S M c) (h2 : zi_past S M c) : ∃ a, za_C S a ∧ za_M S a ∧ za_W a M c := by
  obtain ⟨n, nx, a1, a2, a3, a4, a5, a6⟩ := h2
  exact ⟨(zv_M S 400 0, n, fun i => zv_M S 404 (31 * i)), ⟨h1.1, nx, a2, a3, a4, fun i hi => (a6 i hi).1⟩, ⟨rfl, a5, fun i _ => rfl⟩, ⟨h1.2, a1, fun i hi => (a6 i hi).2⟩⟩
theorem za_to {S : sy_St} {M c : Nat} {a : zs_A} (h1 : za_C S a) (h2 : za_M S a) (h3 : za_W a M c) : zi_now S M c ∧ zi_past S M c := by
  obtain ⟨b1, nx, b2, b3, b4, b5⟩ := h1
  obtain ⟨d1, d2, d3⟩ := h2
  obtain ⟨w1, w2, w3⟩ := h3
  exact ⟨⟨by rw [b1, d1], by rw [d1]; exact w1⟩, a.2.1, nx, w2, b2, b3, b4, d2, fun i hi => ⟨by rw [b5 i hi, d3 i hi], by rw [d3 i hi]; exact w3 i hi⟩⟩
theorem zs_push_W {a : zs_A} {M c : Nat} (h : za_W a M c) : (zs_push a).1 ≤ 60 ∧ ∀ i, i < (zs_push a).1 → zv_W ((zs_push a).2 i) M c := by
  obtain ⟨w1, w2, w3⟩ := h
  unfold zs_push
  by_cases q : a.2.1 < 60
  · rw [if_pos q]
    refine ⟨by simp only; omega, fun i hi => ?_⟩
    simp only at hi ⊢
    by_cases q2 : i = a.2.1
    · rw [if_pos q2]; exact w1
    · rw [if_neg q2]; exact w3 i (by omega)
  · rw [if_neg q]
    refine ⟨by simp only; omega, fun i hi => ?_⟩
    simp only at hi ⊢
    by_cases q2 : i = 59
    · rw [if_pos q2]; exact w1
    · rw [if_neg q2]; exact w3 (i + 1) (by omega)
theorem zs_hr_W {e : Nat → Nat → Int32} {wc M c : Nat} {a : zs_A} (hw : ze_W e wc M) (h : za_W a M c) : za_W (zs_hr e wc M a) M (c + 1) :=
  ⟨zs_pass_W hw h.1 (by decide), (zs_push_W h).1, fun i hi => zv_W_m ((zs_push_W h).2 i hi) (by omega)⟩

theorem za_push_C {S S1 : sy_St} {a : zs_A} {nx : Nat} (hn : a.2.1 ≤ 60) (hx : nx < 60) (hq : ∀ i, i < a.2.1 → zv_K S (57 + 5 * ((nx + 60 - a.2.1 + i) % 60)) = a.2.2 i) (hf : ∀ i, (57 ≤ i ∧ i ≤ 356) → (i < 57 + 5 * nx ∨ 57 + 5 * nx + 4 < i) → S1 i = S i) (hv : zv_K S1 (57 + 5 * nx) = a.1) : ∀ i, i < (zs_push a).1 → zv_K S1 (57 + 5 * (((nx + 1) % 60 + 60 - (zs_push a).1 + i) % 60)) = (zs_push a).2 i := by
  have same : ∀ p, p < 60 → p ≠ nx → zv_K S1 (57 + 5 * p) = zv_K S (57 + 5 * p) := fun p hp hne => zv_Kc (fun i j h1 h2 => by rw [hf i (by omega) (by omega)])
  obtain ⟨v, n, q⟩ := a
  simp only at hn hq hv
  unfold zs_push
  simp only
  by_cases c : n < 60
  · rw [if_pos c]
    simp only
    intro i hi
    by_cases c2 : i = n
    · subst c2
      rw [if_pos rfl, show ((nx + 1) % 60 + 60 - (i + 1) + i) % 60 = nx by omega, hv]
    · rw [if_neg c2, show ((nx + 1) % 60 + 60 - (n + 1) + i) % 60 = (nx + 60 - n + i) % 60 by omega, same _ (by omega) (by omega), hq i (by omega)]
  · rw [if_neg c]
    have : n = 60 := by omega
    subst this
    simp only
    intro i hi
    by_cases c2 : i = 59
    · subst c2
      rw [if_pos rfl, show ((nx + 1) % 60 + 60 - 60 + 59) % 60 = nx by omega, hv]
    · rw [if_neg c2, show ((nx + 1) % 60 + 60 - 60 + i) % 60 = (nx + 60 - 60 + (i + 1)) % 60 by omega, same _ (by omega) (by omega), hq (i + 1) (by omega)]
/-- what an hour of the class changes -/
def zd_hC (i : Nat) : Prop := (45 ≤ i ∧ i ≤ 49) ∨ (55 ≤ i ∧ i ≤ 356 ∧ i ≠ 56)
theorem zp_letHourPass {S : sy_St} {e : Nat → Nat → Int32} {wc M c : Nat} {a : zs_A} (he : ze_C S e wc M) (hw : ze_W e wc M) (ha : za_C S a) (hW : za_W a M c) (hc : c < 2147483648) : zz_wp (m_Top_letHourPass S) (fun _ S1 => (∀ i, ¬ zd_hC i → S1 i = S i) ∧ za_C S1 (zs_hr e wc M a)) := by
  obtain ⟨hv, nx, hx, h1, h2, hq⟩ := ha
  have hn := hW.2.1
  unfold m_Top_letHourPass m_Past_add
  simp only [zz_c, zz_b, zz_g, h2]
  refine ⟨zz_in hx (by omega), ?_⟩
  rw [zz_cl (by omega)]
  refine zz_mono (zp_copyFrom (k := 57 + 5 * nx) (a := 45) (by omega)) (fun r S1 ⟨f1, k1⟩ => ?_)
  rw [zz_some]
  have r55 : S1 55 = S 55 := f1 55 (by omega)
  have x2 : ((nI nx + 1) - (nI nx + 1) / 60 * 60 : Int32) = nI ((nx + 1) % 60) := by rw [nI_1, show (60 : Int32) = nI 60 from rfl, pk_rem (by omega) (by omega) (by omega)]
  have x1 : sy_min 60 (nI a.2.1 + 1) = nI (zs_push a).1 := by
    rw [nI_1]
    unfold zs_push sy_min
    by_cases c : a.2.1 < 60
    · rw [if_pos c]
      simp only
      by_cases c2 : a.2.1 + 1 < 60
      · rw [if_pos (by rw [show (60 : Int32) = nI 60 from rfl]; exact nI_lt c2 (by omega))]
      · rw [if_neg (by rw [show (60 : Int32) = nI 60 from rfl]; exact nI_nlt (by omega) (by omega)), show a.2.1 + 1 = 60 by omega]; rfl
    · rw [if_neg c, if_neg (by rw [show (60 : Int32) = nI 60 from rfl]; exact nI_nlt (by omega) (by omega))]; rfl
  rw [r55, h2, x2, zz_upo, if_neg (by decide), r55, h1, x1]
  have hS2 : ∀ i, i ≠ 55 → (i < 57 + 5 * nx ∨ 57 + 5 * nx + 4 < i) → sy_up (sy_up S1 55 2 (nI ((nx + 1) % 60))) 55 1 (nI (zs_push a).1) i = S i := fun i a1 a2 => by rw [zz_up1 a1, zz_up1 a1, f1 i a2]
  have he2 : ze_C (sy_up (sy_up S1 55 2 (nI ((nx + 1) % 60))) 55 1 (nI (zs_push a).1)) e wc M := by
    unfold ze_C at he ⊢
    rw [hS2 1 (by omega) (by omega), hS2 2 (by omega) (by omega), hS2 3 (by omega) (by omega), hS2 4 (by omega) (by omega), hS2 5 (by omega) (by omega), hS2 6 (by omega) (by omega), hS2 7 (by omega) (by omega), hS2 8 (by omega) (by omega)]
    exact he
  have v2 : zv_K (sy_up (sy_up S1 55 2 (nI ((nx + 1) % 60))) 55 1 (nI (zs_push a).1)) 45 = a.1 := by
    rw [← hv]
    exact zv_Kc (fun i j a1 a2 => by rw [hS2 i (by omega) (by omega)])
  refine zz_mono (zp_passHour (k := 45) (c := c) (by omega) he2 hw (by rw [v2]; exact hW.1) hc) (fun r S3 ⟨f3, k3⟩ => ?_)
  rw [zz_some]
  rw [v2] at k3
  refine ⟨fun i hi => ?_, k3, (nx + 1) % 60, by omega, ?_, ?_, ?_⟩
  · unfold zd_hC at hi
    rw [f3 i (by omega), hS2 i (by omega) (by omega)]
  · rw [f3 55 (by omega), zz_upo, if_pos rfl]; rfl
  · rw [f3 55 (by omega), zz_upo, if_neg (by omega), zz_upo, if_pos rfl]
  · refine za_push_C (S := S) hn hx hq (fun i b1 b2 => ?_) ?_
    · rw [f3 i (by omega), hS2 i (by omega) (by omega)]
    · rw [zf_K f3 (by omega), zvK_a (by omega), zvK_a (by omega), k1, hv]
