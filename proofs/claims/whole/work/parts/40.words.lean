/-! ===== the game of words ===== -/
theorem zs_gcd_C {S : sy_St} : ∀ y x n fuel : Nat, y + n < 100 → y + 1 < fuel → x < 1000 → y < 1000 → 1 ≤ Nat.gcd x y → sy_fix (fun _ _ _ _ => none) m_Game_greatestCommonPart_B15 fuel (nI x) (nI y) (nI n) S = some (nI (Nat.gcd x y), S) := by
  intro y
  induction y using Nat.strongRecOn with
  | ind y ih =>
    intro x n fuel hn hf hx hy hg
    obtain ⟨f, rfl⟩ : ∃ f, fuel = f + 1 := ⟨fuel - 1, by omega⟩
    show m_Game_greatestCommonPart_B15 _ _ _ _ _ = _
    unfold m_Game_greatestCommonPart_B15
    rw [show (100 : Int32) = nI 100 from rfl, if_neg (nI_ge (by omega) (by omega))]
    by_cases h0 : y = 0
    · subst h0
      rw [if_pos (by decide), zz_max, Nat.gcd_zero_right]
      rw [Nat.gcd_zero_right] at hg
      by_cases h1 : x = 1
      · subst h1; rfl
      · rw [if_pos (by rw [show (1 : Int32) = nI 1 from rfl]; exact nI_lt (by omega) (by omega))]
    · have hm := Nat.mod_lt x (show 0 < y by omega)
      have hs : Nat.gcd x y = Nat.gcd y (x % y) := by rw [Nat.gcd_comm, Nat.gcd_rec, Nat.gcd_comm]
      rw [if_neg (nI_nle (by omega) (by omega)), sy_g, if_pos (nI_ne0 (by omega) (by omega)), sy_b, sy_b, nI_1, pk_rem (by omega) (by omega) (by omega), hs]
      exact ih (x % y) hm y (n + 1) f (by omega) (by omega) (by omega) (by omega) (by omega)
theorem zp_gcd {S : sy_St} {n d : Nat} (hn : n < 1000) (hd : 1 ≤ d) (hd2 : d < 50) : m_Game_greatestCommonPart (nI n) (nI d) S = some (nI (Nat.gcd n d), S) := by
  have hg : 1 ≤ Nat.gcd n d := Nat.gcd_pos_of_pos_right n (by omega)
  unfold m_Game_greatestCommonPart
  rw [zz_max, zz_min]
  by_cases h : n < d
  · rw [if_pos (nI_lt h (by omega)), if_neg (nI_nlt (by omega) (by omega)), sy_b, sy_b, Nat.gcd_comm]
    exact zs_gcd_C n d 0 sy_F (by omega) (zz_F (by omega)) (by omega) (by omega) (by rw [Nat.gcd_comm]; exact hg)
  · rw [if_neg (nI_nlt (by omega) (by omega))]
    by_cases h2 : d < n
    · rw [if_pos (nI_lt h2 (by omega)), sy_b, sy_b]
      exact zs_gcd_C d n 0 sy_F (by omega) (zz_F (by omega)) (by omega) (by omega) hg
    · have : n = d := by omega
      subst this
      rw [if_neg (nI_nlt (by omega) (by omega)), sy_b, sy_b]
      exact zs_gcd_C n n 0 sy_F (by omega) (zz_F (by omega)) (by omega) (by omega) hg
theorem zs_gcd_M {S : sy_St} {w a b : Int32} : ∀ y x fuel : Nat, y + 1 < fuel → x < 1000 → y < 1000 → 1 ≤ Nat.gcd x y → sy_fix (fun _ _ _ _ _ _ => none) m_Model_words_B237 fuel w a b (nI x) (nI y) S = some ((if w - w / 2 * 2 = 0 then a else b) / nI (Nat.gcd x y), S) := by
  intro y
  induction y using Nat.strongRecOn with
  | ind y ih =>
    intro x fuel hf hx hy hg
    obtain ⟨f, rfl⟩ : ∃ f, fuel = f + 1 := ⟨fuel - 1, by omega⟩
    show m_Model_words_B237 _ _ _ _ _ _ _ = _
    unfold m_Model_words_B237
    by_cases h0 : y = 0
    · subst h0
      rw [Nat.gcd_zero_right] at hg ⊢
      rw [if_pos nI_0, sy_g, sy_g, if_pos (nI_ne0 (by omega) (by omega)), if_pos (nI_ne0 (by omega) (by omega))]
      by_cases h1 : w - w / 2 * 2 = 0
      · rw [if_pos h1, if_pos h1]
      · rw [if_neg h1, if_neg h1]
    · have hm := Nat.mod_lt x (show 0 < y by omega)
      have hs : Nat.gcd x y = Nat.gcd y (x % y) := by rw [Nat.gcd_comm, Nat.gcd_rec, Nat.gcd_comm]
      rw [if_neg (nI_ne0 (by omega) (by omega)), sy_g, if_pos (nI_ne0 (by omega) (by omega)), sy_b, pk_rem (by omega) (by omega) (by omega), hs]
      exact ih (x % y) hm y f (by omega) (by omega) (by omega) (by omega)
theorem zs_odds (A B C D x t : Int32) (h : (x = A - B - C + D ∧ t = D - C) ∨ (x = -(A - B - C + D) ∧ t = -(D - C))) : B * t + D * (x - t) = A * t + C * (x - t) ∧ C * x + t * (A - C) = A * t + C * (x - t) := by
  rcases h with ⟨rfl, rfl⟩ | ⟨rfl, rfl⟩
  · exact ⟨by grind, by grind⟩
  · exact ⟨by grind, by grind⟩
theorem zz_max_self (x : Int32) : sy_min x x = x := by
  rw [zz_min, if_neg (by grind)]
theorem zs_min_nI {a b : Nat} (ha : a < 1000) (hb : b < 1000) : sy_min (nI a) (nI b) = nI (min a b) := by
  rw [zz_min]
  by_cases h : b < a
  · rw [if_pos (nI_lt h (by omega)), Nat.min_eq_right (by omega)]
  · rw [if_neg (nI_nlt (by omega) (by omega)), Nat.min_eq_left (by omega)]
/-- what a game's cell holds -/
def zs_gm (S : sy_St) (a b c d V D T X : Nat) : Prop := S 391 0 = nI a ∧ S 391 1 = nI b ∧ S 391 2 = nI c ∧ S 391 3 = nI d ∧ S 391 4 = nI V ∧ S 391 5 = nI D ∧ S 391 6 = nI T ∧ S 391 7 = nI X
def zs_g4 (S : sy_St) (a b c d : Nat) : Prop := S 391 0 = nI a ∧ S 391 1 = nI b ∧ S 391 2 = nI c ∧ S 391 3 = nI d
def zs_sm (V D T X : Nat) : Prop := V < 1000 ∧ 1 ≤ D ∧ D < 50 ∧ T < 50 ∧ 1 ≤ X ∧ X < 50
theorem zp_setOdds {S : sy_St} {a b c d V D T X : Nat} {t x : Nat} {v : Int32} (h : zs_g4 S a b c d) (hv : v = sy_min (nI a * nI t + nI c * (nI x - nI t)) (nI b * nI t + nI d * (nI x - nI t))) (hV : v = nI V) (hD : D = x) (hT : T = t) (hX : X = x) : zz_wp (m_Game_setOdds (nI t) (nI x) S) (fun _ S1 => zf_o S S1 391 391 ∧ zs_gm S1 a b c d V D T X) := by
  subst hD; subst hT; subst hX
  obtain ⟨h0, h1, h2, h3⟩ := h
  unfold m_Game_setOdds m_Game_valueOf
  simp only [zz_b, zz_c, zz_some]
  refine ⟨fun i hi => by rw [zz_up1 (by omega), zz_up1 (by omega), zz_up1 (by omega), zz_up1 (by omega)], ?_⟩
  unfold zs_gm
  simp [zz_up, h0, h1, h2, h3, ← hv, hV]
theorem zs_gm4 {S : sy_St} {a b c d V D T X : Nat} (h : zs_gm S a b c d V D T X) : zs_g4 S a b c d := ⟨h.1, h.2.1, h.2.2.1, h.2.2.2.1⟩
theorem zp_tryOdds {S : sy_St} {a b c d V D T X t x v : Nat} (h : zs_gm S a b c d V D T X) (hv : sy_min (nI a * nI t + nI c * (nI x - nI t)) (nI b * nI t + nI d * (nI x - nI t)) = nI v) : (nI v * nI D ≤ nI V * nI x → m_Game_tryOdds (nI t) (nI x) S = some (0, S)) ∧ (¬ nI v * nI D ≤ nI V * nI x → zz_wp (m_Game_tryOdds (nI t) (nI x) S) (fun _ S1 => zf_o S S1 391 391 ∧ zs_gm S1 a b c d v x t x)) := by
  have hval : m_Game_valueOf (nI t) (nI x) S = some (nI v, S) := by
    unfold m_Game_valueOf
    rw [h.1, h.2.1, h.2.2.1, h.2.2.2.1]
    simp only [sy_b]
    rw [hv]
  unfold m_Game_tryOdds
  rw [hval]
  refine ⟨fun q => ?_, fun q => ?_⟩
  · simp only [sy_c, h.2.2.2.2.1, h.2.2.2.2.2.1]
    rw [if_pos q]
  · rw [zz_c, zz_some, h.2.2.2.2.1, h.2.2.2.2.2.1, if_neg q, zz_c]
    refine zz_mono (zp_setOdds (zs_gm4 h) hv.symm rfl rfl rfl rfl) (fun r S1 h1 => ?_)
    rw [zz_some]
    exact h1
/-- the odds that make both words the same -/
theorem zs_even {a b c d V : Nat} {x t : Int32} (ha : a ≤ 9) (hb : b ≤ 9) (hc : c ≤ 9) (hd : d ≤ 9) (hV : V ≤ 9) (h : (x = nI a - nI b - nI c + nI d ∧ t = nI d - nI c) ∨ (x = -(nI a - nI b - nI c + nI d) ∧ t = -(nI d - nI c))) (hx : 0 ≤ x) (hx2 : x ≤ 18) :
    ∃ V1 D T X, zs_sm V1 D T X ∧ (∀ S, zs_gm S a b c d V 1 0 1 → zz_wp (m_Game_tryEvenOdds_J15 x t S) (fun _ S1 => zf_o S S1 391 391 ∧ zs_gm S1 a b c d V1 D T X)) ∧ ∀ (w : Int32) (S : sy_St), m_Model_words_J108 (nI a) (nI b) (nI c) w 0 1 (nI V) 1 x t S = m_Model_words_J164 (nI a) (nI b) w (nI T) (nI X) (nI V1) (nI D) S := by
  have skip : (t ≤ 0 ∨ x ≤ t) → _ := fun hs => (show ∃ V1 D T X, zs_sm V1 D T X ∧ (∀ S, zs_gm S a b c d V 1 0 1 → zz_wp (m_Game_tryEvenOdds_J15 x t S) (fun _ S1 => zf_o S S1 391 391 ∧ zs_gm S1 a b c d V1 D T X)) ∧ ∀ (w : Int32) (S : sy_St), m_Model_words_J108 (nI a) (nI b) (nI c) w 0 1 (nI V) 1 x t S = m_Model_words_J164 (nI a) (nI b) w (nI T) (nI X) (nI V1) (nI D) S from by
    refine ⟨V, 1, 0, 1, ⟨by omega, by omega, by omega, by omega, by omega, by omega⟩, fun S g => ?_, fun w S => ?_⟩
    · unfold m_Game_tryEvenOdds_J15
      by_cases h0 : t ≤ 0
      · rw [if_pos h0, zz_some]; exact ⟨zf_refl, g⟩
      · rw [if_neg h0, if_pos (hs.resolve_left h0), zz_some]; exact ⟨zf_refl, g⟩
    · unfold m_Model_words_J108
      by_cases h0 : x ≤ 0
      · rw [if_pos h0]; rfl
      · rw [if_neg h0]
        by_cases h1 : t ≤ 0
        · rw [if_pos h1]; rfl
        · rw [if_neg h1, if_pos (hs.resolve_left h1)]; rfl)
  by_cases h0 : t ≤ 0
  · exact skip (Or.inl h0)
  by_cases h1 : x ≤ t
  · exact skip (Or.inr h1)
  clear skip
  obtain ⟨X, hX, rfl⟩ := nI_of2 (M := 18) (n := 18) rfl (show ¬ x < 0 by grind) hx2
  obtain ⟨T, hT, rfl⟩ := nI_of2 (M := 18) (n := 18) rfl (show ¬ t < 0 by grind) (by grind)
  have hTX : T < X := by
    rcases Nat.lt_or_ge T X with q | q
    · exact q
    · exact absurd (nI_le q (by omega)) h1
  have hT0 : 0 < T := by
    rcases Nat.eq_zero_or_pos T with q | q
    · subst q; exact absurd (by decide) h0
    · exact q
  obtain ⟨e1, e2⟩ := zs_odds (nI a) (nI b) (nI c) (nI d) (nI X) (nI T) h
  have e3 : nI a * nI T + nI c * (nI X - nI T) = nI (a * T + c * (X - T)) := by rw [pk_sub (by omega), pk_mul, pk_mul, nI_add]
  have b1 : a * T ≤ 9 * 18 := Nat.mul_le_mul ha hT
  have b2 : c * (X - T) ≤ 9 * 18 := Nat.mul_le_mul hc (by omega)
  have hv : sy_min (nI a * nI T + nI c * (nI X - nI T)) (nI b * nI T + nI d * (nI X - nI T)) = nI (a * T + c * (X - T)) := by rw [e1, zz_max_self, e3]
  have n0 : ¬ nI X ≤ 0 := fun z => h0 (by grind)
  by_cases hle : nI (a * T + c * (X - T)) * nI 1 ≤ nI V * nI X
  · refine ⟨V, 1, 0, 1, ⟨by omega, by omega, by omega, by omega, by omega, by omega⟩, fun S g => ?_, fun w S => ?_⟩
    · unfold m_Game_tryEvenOdds_J15
      rw [if_neg h0, if_neg h1, (zp_tryOdds g hv).1 hle, zz_c, zz_some, zz_some]
      exact ⟨zf_refl, g⟩
    · unfold m_Model_words_J108
      rw [if_neg n0, if_neg h0, if_neg h1, sy_b, e2, e3, if_pos (by rw [show nI 1 = 1 from rfl, Int32.mul_one] at hle; exact hle)]
      rfl
  · refine ⟨a * T + c * (X - T), X, T, X, ⟨by omega, by omega, by omega, by omega, by omega, by omega⟩, fun S g => ?_, fun w S => ?_⟩
    · unfold m_Game_tryEvenOdds_J15
      rw [if_neg h0, if_neg h1, zz_c]
      refine zz_mono ((zp_tryOdds g hv).2 hle) (fun r S1 h1 => ?_)
      rw [zz_some]
      exact h1
    · unfold m_Model_words_J108
      rw [if_neg n0, if_neg h0, if_neg h1, sy_b, e2, e3, if_neg (by rw [show nI 1 = 1 from rfl, Int32.mul_one] at hle; exact hle)]
theorem zs_span {A B C D : Int32} (hA : 0 ≤ A ∧ A ≤ 9) (hB : 0 ≤ B ∧ B ≤ 9) (hC : 0 ≤ C ∧ C ≤ 9) (hD : 0 ≤ D ∧ D ≤ 9) : -18 ≤ A - B - C + D ∧ A - B - C + D ≤ 18 := by
  have h1 : -9 ≤ A - B ∧ A - B ≤ 9 := by grind
  have h2 : -9 ≤ D - C ∧ D - C ≤ 9 := by grind
  have e : A - B - C + D = (A - B) + (D - C) := by grind
  rw [e]
  generalize A - B = x at *
  generalize D - C = y at *
  grind
theorem zs_neg {P : Int32} (h : -18 ≤ P) (h0 : ¬ 0 ≤ P) : 0 ≤ -P ∧ -P ≤ 18 := by grind
theorem zs_words {a b c d : Nat} (ha : a ≤ 9) (hb : b ≤ 9) (hc : c ≤ 9) (hd : d ≤ 9) :
    ∃ V D T X, zs_sm V D T X ∧ (∀ S, zz_wp (m_Game_solve (nI a) (nI b) (nI c) (nI d) S) (fun _ S1 => zf_o S S1 391 391 ∧ S1 391 4 = nI (V / Nat.gcd V D) ∧ S1 391 5 = nI (D / Nat.gcd V D) ∧ S1 391 6 = nI (T / Nat.gcd T X) ∧ S1 391 7 = nI (X / Nat.gcd T X))) ∧
      ∀ (w : Int32) (S : sy_St), m_Model_words_J72 (nI a) (nI b) (nI c) (nI d) w 0 1 (nI (min c d)) S = m_Model_words_J199 w (nI T) (nI X) (nI V) (nI D) S := by
  have hA : 0 ≤ nI a ∧ nI a ≤ 9 := ⟨nI_pos' (by omega), nI_le (b := 9) ha (by omega)⟩
  have hB : 0 ≤ nI b ∧ nI b ≤ 9 := ⟨nI_pos' (by omega), nI_le (b := 9) hb (by omega)⟩
  have hC : 0 ≤ nI c ∧ nI c ≤ 9 := ⟨nI_pos' (by omega), nI_le (b := 9) hc (by omega)⟩
  have hD : 0 ≤ nI d ∧ nI d ≤ 9 := ⟨nI_pos' (by omega), nI_le (b := 9) hd (by omega)⟩
  have ep : nI a - nI c - nI b + nI d = nI a - nI b - nI c + nI d := by grind
  -- the odds both words come to
  have key : ∃ V1 D T X, zs_sm V1 D T X ∧ (∀ S, zs_gm S a b c d (min c d) 1 0 1 → zz_wp (m_Game_tryEvenOdds (nI a - nI b - nI c + nI d) (nI d - nI c) S) (fun _ S1 => zf_o S S1 391 391 ∧ zs_gm S1 a b c d V1 D T X)) ∧ ∀ (w : Int32) (S : sy_St), m_Model_words_J72 (nI a) (nI b) (nI c) (nI d) w 0 1 (nI (min c d)) S = m_Model_words_J164 (nI a) (nI b) w (nI T) (nI X) (nI V1) (nI D) S := by
    by_cases h0 : 0 ≤ nI a - nI b - nI c + nI d
    · obtain ⟨V1, D, T, X, k1, k2, k3⟩ := zs_even (V := min c d) ha hb hc hd (by omega) (Or.inl ⟨rfl, rfl⟩) h0 (zs_span hA hB hC hD).2
      refine ⟨V1, D, T, X, k1, fun S g => ?_, fun w S => ?_⟩
      · unfold m_Game_tryEvenOdds
        rw [zz_abs, if_pos h0, zz_b, if_pos h0]
        exact k2 S g
      · unfold m_Model_words_J72
        rw [ep, sy_b, sy_b, if_pos h0]
        exact k3 w S
    · have h1 : 0 ≤ -(nI a - nI b - nI c + nI d) ∧ -(nI a - nI b - nI c + nI d) ≤ 18 := zs_neg (zs_span hA hB hC hD).1 h0
      have h2 : 0 - (nI a - nI b - nI c + nI d) = -(nI a - nI b - nI c + nI d) := by generalize nI a - nI b - nI c + nI d = P; grind
      obtain ⟨V1, D, T, X, k1, k2, k3⟩ := zs_even (V := min c d) ha hb hc hd (by omega) (Or.inr ⟨rfl, rfl⟩) h1.1 h1.2
      refine ⟨V1, D, T, X, k1, fun S g => ?_, fun w S => ?_⟩
      · unfold m_Game_tryEvenOdds
        rw [zz_abs, if_neg h0, zz_b, if_neg h0, h2]
        exact k2 S g
      · unfold m_Model_words_J72
        rw [ep, sy_b, sy_b, if_neg h0]
        exact k3 w S
  obtain ⟨V1, D1, T1, X1, k1, k2, k3⟩ := key
  have hv : sy_min (nI a * nI 1 + nI c * (nI 1 - nI 1)) (nI b * nI 1 + nI d * (nI 1 - nI 1)) = nI (min a b) := by
    rw [show nI 1 - nI 1 = nI 0 from by decide, pk_mul, pk_mul, pk_mul, pk_mul, nI_add, nI_add]
    simp only [Nat.mul_one, Nat.mul_zero, Nat.add_zero]
    exact zs_min_nI (by omega) (by omega)
  have hv0 : nI (min c d) = sy_min (nI a * nI 0 + nI c * (nI 1 - nI 0)) (nI b * nI 0 + nI d * (nI 1 - nI 0)) := by
    rw [show nI 1 - nI 0 = nI 1 from by decide, pk_mul, pk_mul, pk_mul, pk_mul, nI_add, nI_add]
    simp only [Nat.mul_one, Nat.mul_zero, Nat.zero_add]
    exact (zs_min_nI (by omega) (by omega)).symm
  -- and with the last odds tried
  have last : ∃ V D T X, zs_sm V D T X ∧ (∀ S, zs_gm S a b c d V1 D1 T1 X1 → zz_wp (m_Game_tryOdds (nI 1) (nI 1) S) (fun _ S1 => zf_o S S1 391 391 ∧ zs_gm S1 a b c d V D T X)) ∧ ∀ (w : Int32) (S : sy_St), m_Model_words_J164 (nI a) (nI b) w (nI T1) (nI X1) (nI V1) (nI D1) S = m_Model_words_J199 w (nI T) (nI X) (nI V) (nI D) S := by
    have em : ∀ (w : Int32) (S : sy_St), m_Model_words_J164 (nI a) (nI b) w (nI T1) (nI X1) (nI V1) (nI D1) S = m_Model_words_J174 w (nI T1) (nI X1) (nI V1) (nI D1) (nI (min a b)) S := fun w S => by
      unfold m_Model_words_J164
      by_cases h : b ≤ a
      · rw [if_pos (nI_le h (by omega)), Nat.min_eq_right h]
      · rw [if_neg (nI_ge (by omega) (by omega)), Nat.min_eq_left (by omega)]
    by_cases hle : nI (min a b) * nI D1 ≤ nI V1 * nI 1
    · refine ⟨V1, D1, T1, X1, k1, fun S g => ?_, fun w S => ?_⟩
      · rw [(zp_tryOdds g hv).1 hle, zz_some]; exact ⟨zf_refl, g⟩
      · rw [em]
        unfold m_Model_words_J174
        rw [if_pos (by rw [show nI 1 = 1 from rfl, Int32.mul_one] at hle; exact hle)]
    · refine ⟨min a b, 1, 1, 1, ⟨by omega, by omega, by omega, by omega, by omega, by omega⟩, fun S g => (zp_tryOdds g hv).2 hle, fun w S => ?_⟩
      rw [em]
      unfold m_Model_words_J174
      rw [if_neg (by rw [show nI 1 = 1 from rfl, Int32.mul_one] at hle; exact hle)]
      rfl
  obtain ⟨V, D, T, X, g1, g2, g3⟩ := last
  refine ⟨V, D, T, X, g1, fun S => ?_, fun w S => by rw [k3, g3]⟩
  obtain ⟨q1, q2, q3, q4, q5, q6⟩ := g1
  have gg : 1 ≤ Nat.gcd V D := Nat.gcd_pos_of_pos_right _ (by omega)
  have gg2 : Nat.gcd V D < 1000 := by have := Nat.gcd_le_right V (show 0 < D by omega); omega
  have gh : 1 ≤ Nat.gcd T X := Nat.gcd_pos_of_pos_right _ (by omega)
  have gh2 : Nat.gcd T X < 1000 := by have := Nat.gcd_le_right T (show 0 < X by omega); omega
  unfold m_Game_solve
  simp only [zz_b, zz_c]
  have r0 : zs_g4 (sy_up (sy_up (sy_up (sy_up S 391 0 (nI a)) 391 1 (nI b)) 391 2 (nI c)) 391 3 (nI d)) a b c d := by
    unfold zs_g4
    simp [zz_up]
  have f0 : zf_o S (sy_up (sy_up (sy_up (sy_up S 391 0 (nI a)) 391 1 (nI b)) 391 2 (nI c)) 391 3 (nI d)) 391 391 := fun i hi => by rw [zz_up1 (by omega), zz_up1 (by omega), zz_up1 (by omega), zz_up1 (by omega)]
  refine zz_mono (zp_setOdds (t := 0) (x := 1) r0 hv0 rfl rfl rfl rfl) (fun _ S5 ⟨f5, m5⟩ => ?_)
  refine zz_mono (k2 S5 m5) (fun _ S8 ⟨f8, m8⟩ => ?_)
  refine zz_mono (g2 S8 m8) (fun _ S11 ⟨f11, m11⟩ => ?_)
  have m := m11.2.2.2.2
  rw [m.1, m.2.1, zp_gcd (by omega) (by omega) (by omega), zz_some]
  simp only [zz_g, zz_b, zz_c]
  refine ⟨nI_ne0 (by omega) (by omega), nI_ne0 (by omega) (by omega), ?_⟩
  have u : ∀ v1 v2 : Int32, sy_up (sy_up S11 391 4 v1) 391 5 v2 391 6 = nI T ∧ sy_up (sy_up S11 391 4 v1) 391 5 v2 391 7 = nI X := fun v1 v2 => by
    simp [zz_up, m.2.2.1, m.2.2.2]
  have e6 : (sy_up S11 391 4 (nI V / nI (V.gcd D))) 391 5 = nI D := by simp [zz_up, m.2.1]
  rw [m.1, e6, (u _ _).1, (u _ _).2, zp_gcd (by omega) (by omega) (by omega), zz_some]
  refine ⟨nI_ne0 (by omega) (by omega), nI_ne0 (by omega) (by omega), ?_⟩
  rw [zz_some]
  refine ⟨fun i hi => by rw [zz_up1 (by omega), zz_up1 (by omega), zz_up1 (by omega), zz_up1 (by omega), f11 i hi, f8 i hi, f5 i hi, f0 i hi], ?_⟩
  rw [pk_div (by omega) (by omega) (by omega), pk_div (by omega) (by omega) (by omega)]
  simp [zz_up, m.2.2.1, m.2.2.2]
  exact ⟨pk_div (by omega) (by omega) (by omega), pk_div (by omega) (by omega) (by omega)⟩
theorem zp_gain_t {x : Nat} {S : sy_St} (h : x ≤ 9) : m_Top_isNoGain (nI x) S = some (0, S) := by
  unfold m_Top_isNoGain
  rw [if_neg (nI_pos (by omega)), if_pos (show nI x ≤ 9 from nI_le (b := 9) h (by omega))]
theorem zp_gain_f {x : Int32} {S : sy_St} (h : ¬ (0 ≤ x ∧ x ≤ 9)) : m_Top_isNoGain x S = some (1, S) := by
  unfold m_Top_isNoGain
  by_cases q : x < 0
  · rw [if_pos q]
  · rw [if_neg q, if_neg (fun z => h ⟨by grind, z⟩)]
theorem zs_0_9 (x : Int32) : (∃ n, n ≤ 9 ∧ x = nI n) ∨ ¬ (0 ≤ x ∧ x ≤ 9) := by
  by_cases h : 0 ≤ x ∧ x ≤ 9
  · exact Or.inl (nI_of2 (M := 9) (n := 9) rfl (by grind) h.2)
  · exact Or.inr h
theorem zo_words (p0 p1 p2 p3 p4 : Int32) : zo_ok (m_Top_words p0 p1 p2 p3 p4) (m_Model_words p0 p1 p2 p3 p4) := by
  intro S e wc M c hc g
  have gs := zo_same g
  have ti : ∀ x : Nat, x ≤ 9 → ∀ S, m_Model_in (nI x) 0 9 S = some (1, S) := fun x hx S => zq_in_t (nI_pos' (by omega)) (show nI x ≤ 9 from nI_le (b := 9) hx (by omega))
  rcases zs_0_9 p0 with ⟨a, ha, rfl⟩ | h
  rotate_left
  · refine zo_two (r := -1000000002) (S1 := S) (S2 := S) ?_ ?_ gs
    · unfold m_Top_words; rw [zp_gain_f h]; rfl
    · unfold m_Model_words; rw [zq_in_f h]; rfl
  rcases zs_0_9 p1 with ⟨b, hb, rfl⟩ | h
  rotate_left
  · refine zo_two (r := -1000000002) (S1 := S) (S2 := S) ?_ ?_ gs
    · unfold m_Top_words; simp only [sy_c, zp_gain_t ha, zp_gain_f h]; rfl
    · unfold m_Model_words; simp only [sy_c, ti a ha, zq_in_f h]; rfl
  rcases zs_0_9 p2 with ⟨c1, hc1, rfl⟩ | h
  rotate_left
  · refine zo_two (r := -1000000002) (S1 := S) (S2 := S) ?_ ?_ gs
    · unfold m_Top_words; simp only [sy_c, zp_gain_t ha, zp_gain_t hb, zp_gain_f h]; rfl
    · unfold m_Model_words; simp only [sy_c, ti a ha, ti b hb, zq_in_f h]; rfl
  rcases zs_0_9 p3 with ⟨d, hd, rfl⟩ | h
  rotate_left
  · refine zo_two (r := -1000000002) (S1 := S) (S2 := S) ?_ ?_ gs
    · unfold m_Top_words; simp only [sy_c, zp_gain_t ha, zp_gain_t hb, zp_gain_t hc1, zp_gain_f h]; rfl
    · unfold m_Model_words; simp only [sy_c, ti a ha, ti b hb, ti c1 hc1, zq_in_f h]; rfl
  by_cases h4 : 0 ≤ p4 ∧ p4 ≤ 3
  rotate_left
  · refine zo_two (r := -1000000002) (S1 := S) (S2 := S) ?_ ?_ gs
    · unfold m_Top_words
      simp only [sy_c, zp_gain_t ha, zp_gain_t hb, zp_gain_t hc1, zp_gain_t hd, if_true]
      by_cases q : p4 < 0
      · rw [if_pos q]
      · rw [if_neg q, if_neg (fun z => h4 ⟨by grind, z⟩)]
    · unfold m_Model_words; simp only [sy_c, ti a ha, ti b hb, ti c1 hc1, ti d hd, zq_in_f h4]; rfl
  obtain ⟨V, D, T, X, ⟨q1, q2, q3, q4, q5, q6⟩, k1, k2⟩ := zs_words ha hb hc1 hd
  obtain ⟨w, hw, rfl⟩ := nI_of2 (M := 3) (n := 3) rfl (by grind) h4.2
  have gg : 1 ≤ Nat.gcd D V := Nat.gcd_pos_of_pos_left _ (by omega)
  have gg2 : Nat.gcd D V < 1000 := by have := Nat.gcd_le_left V (show 0 < D by omega); omega
  have gh : 1 ≤ Nat.gcd X T := Nat.gcd_pos_of_pos_left _ (by omega)
  have gh2 : Nat.gcd X T < 1000 := by have := Nat.gcd_le_left T (show 0 < X by omega); omega
  have hmod : ∀ S1, m_Model_words (nI a) (nI b) (nI c1) (nI d) (nI w) S1 = some (if w = 0 then nI (V / Nat.gcd V D) else if w = 1 then nI (D / Nat.gcd V D) else if w = 2 then nI (T / Nat.gcd T X) else nI (X / Nat.gcd T X), S1) := fun S1 => by
    unfold m_Model_words
    simp only [sy_c, ti a ha, ti b hb, ti c1 hc1, ti d hd]
    rw [if_neg (by decide), if_neg (by decide), if_neg (by decide), if_neg (by decide), zq_in_t (nI_pos' (by omega)) (show nI w ≤ 3 from nI_le (b := 3) hw (by omega))]
    simp only
    rw [if_neg (by decide)]
    have em : (if nI d ≤ nI c1 then m_Model_words_J72 (nI a) (nI b) (nI c1) (nI d) (nI w) 0 1 (nI d) S1 else m_Model_words_J72 (nI a) (nI b) (nI c1) (nI d) (nI w) 0 1 (nI c1) S1) = m_Model_words_J72 (nI a) (nI b) (nI c1) (nI d) (nI w) 0 1 (nI (min c1 d)) S1 := by
      by_cases h : d ≤ c1
      · rw [if_pos (nI_le h (by omega)), Nat.min_eq_right h]
      · rw [if_neg (nI_ge (by omega) (by omega)), Nat.min_eq_left (by omega)]
    rw [em, k2]
    unfold m_Model_words_J199
    rw [Nat.gcd_comm V D, Nat.gcd_comm T X]
    have cases4 : w = 0 ∨ w = 1 ∨ w = 2 ∨ w = 3 := by omega
    have gm := fun (y x : Nat) (h1 : x < 1000) (h2 : y < 1000) (h3 : 1 ≤ Nat.gcd x y) (w a b : Int32) => zs_gcd_M (S := S1) (w := w) (a := a) (b := b) y x sy_F (zz_F (by omega)) h1 h2 h3
    rcases cases4 with rfl | rfl | rfl | rfl
    · rw [if_neg (by decide)]
      unfold m_Model_words_J212
      rw [if_neg (by decide), gm V D (by omega) (by omega) gg, if_pos (by decide), if_pos rfl, pk_div (by omega) (by omega) (by omega)]
    · rw [if_neg (by decide)]
      unfold m_Model_words_J212
      rw [if_neg (by decide), gm V D (by omega) (by omega) gg, if_neg (by decide), if_neg (by decide), if_pos rfl, pk_div (by omega) (by omega) (by omega)]
    · rw [if_pos (by decide)]
      unfold m_Model_words_J212
      rw [if_pos (by decide), gm T X (by omega) (by omega) gh, if_pos (by decide), if_neg (by decide), if_neg (by decide), if_pos rfl, pk_div (by omega) (by omega) (by omega)]
    · rw [if_pos (by decide)]
      unfold m_Model_words_J212
      rw [if_pos (by decide), gm T X (by omega) (by omega) gh, if_neg (by decide), if_neg (by decide), if_neg (by decide), if_neg (by decide), pk_div (by omega) (by omega) (by omega)]
  have htop : zz_wp (m_Top_words (nI a) (nI b) (nI c1) (nI d) (nI w) S) (fun r S1 => zf_o S S1 391 391 ∧ r = if w = 0 then nI (V / Nat.gcd V D) else if w = 1 then nI (D / Nat.gcd V D) else if w = 2 then nI (T / Nat.gcd T X) else nI (X / Nat.gcd T X)) := by
    unfold m_Top_words
    simp only [zz_c, zz_i, zp_gain_t ha, zp_gain_t hb, zp_gain_t hc1, zp_gain_t hd, zz_some]
    refine ⟨fun _ => ⟨fun _ => ⟨fun _ => ⟨fun _ => ⟨fun z => absurd z (nI_pos (by omega)), fun _ => ⟨fun _ => ?_, fun z => absurd h4.2 z⟩⟩, fun z => absurd trivial z⟩, fun z => absurd trivial z⟩, fun z => absurd trivial z⟩, fun z => absurd trivial z⟩
    refine zz_mono (k1 S) (fun r S1 ⟨f1, e4, e5, e6, e7⟩ => ?_)
    rw [e4, e5, e6, e7]
    have cases4 : w = 0 ∨ w = 1 ∨ w = 2 ∨ w = 3 := by omega
    rcases cases4 with rfl | rfl | rfl | rfl
    · exact ⟨fun _ => ⟨f1, rfl⟩, fun z => absurd rfl z⟩
    · exact ⟨fun z => absurd z (by decide), fun _ => ⟨fun _ => ⟨f1, rfl⟩, fun z => absurd rfl z⟩⟩
    · exact ⟨fun z => absurd z (by decide), fun _ => ⟨fun z => absurd z (by decide), fun _ => ⟨fun _ => ⟨f1, rfl⟩, fun z => absurd rfl z⟩⟩⟩
    · exact ⟨fun z => absurd z (by decide), fun _ => ⟨fun z => absurd z (by decide), fun _ => ⟨fun z => absurd z (by decide), fun _ => ⟨f1, rfl⟩⟩⟩⟩
  refine zz_mono htop (fun r S1 ⟨f1, h1⟩ => ?_)
  rw [hmod S1, zz_some]
  exact ⟨h1.symm, zo_scr g (fun x hx => by rw [f1 x (by omega)])⟩
