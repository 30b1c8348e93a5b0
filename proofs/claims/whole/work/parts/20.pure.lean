/-! ===== pure programs: what they come to ===== -/
def zz_wp (o : sy_R) (Q : Int32 → sy_St → Prop) : Prop := ∃ r S, o = some (r, S) ∧ Q r S
theorem zz_some {r : Int32} {S : sy_St} {Q : Int32 → sy_St → Prop} : zz_wp (some (r, S)) Q ↔ Q r S := ⟨fun ⟨_, _, h, q⟩ => by cases h; exact q, fun q => ⟨_, _, rfl, q⟩⟩
theorem zz_b {α : Type} {v : α} {f : α → sy_R} {Q : Int32 → sy_St → Prop} : zz_wp (sy_b v f) Q ↔ zz_wp (f v) Q := Iff.rfl
theorem zz_g {c : Prop} [Decidable c] {k : sy_R} {Q : Int32 → sy_St → Prop} : zz_wp (sy_g c k) Q ↔ c ∧ zz_wp k Q := by
  unfold sy_g
  by_cases hc : c
  · rw [if_pos hc]; exact ⟨fun h => ⟨hc, h⟩, fun h => h.2⟩
  · rw [if_neg hc]; exact ⟨fun ⟨_, _, h, _⟩ => (by cases h), fun h => absurd h.1 hc⟩
theorem zz_i {c : Prop} [Decidable c] {a b : sy_R} {Q : Int32 → sy_St → Prop} : zz_wp (if c then a else b) Q ↔ (c → zz_wp a Q) ∧ (¬ c → zz_wp b Q) := by
  by_cases hc : c
  · rw [if_pos hc]; exact ⟨fun h => ⟨fun _ => h, fun h2 => absurd hc h2⟩, fun h => h.1 hc⟩
  · rw [if_neg hc]; exact ⟨fun h => ⟨fun h2 => absurd h2 hc, fun _ => h⟩, fun h => h.2 hc⟩
theorem zz_c {o : sy_R} {f : Int32 → sy_St → sy_R} {Q : Int32 → sy_St → Prop} : zz_wp (sy_c o f) Q ↔ zz_wp o (fun r S => zz_wp (f r S) Q) := by
  constructor
  · rintro ⟨r, S, h, q⟩
    obtain ⟨x, S1, h1, h2⟩ := sy_c_e h
    exact ⟨x, S1, h1, r, S, h2, q⟩
  · rintro ⟨x, S1, h1, r, S, h2, q⟩
    exact ⟨r, S, by rw [h1]; exact h2, q⟩
theorem zz_mono {o : sy_R} {P Q : Int32 → sy_St → Prop} (h : zz_wp o P) (k : ∀ r S, P r S → Q r S) : zz_wp o Q := by
  obtain ⟨r, S, h1, h2⟩ := h
  exact ⟨r, S, h1, k r S h2⟩
theorem zz_of_eq {o : sy_R} {r : Int32} {S : sy_St} {Q : Int32 → sy_St → Prop} (h : o = some (r, S)) (q : Q r S) : zz_wp o Q := ⟨r, S, h, q⟩
theorem zz_det {o : sy_R} {r : Int32} {S : sy_St} (h : zz_wp o (fun r1 S1 => r1 = r ∧ S1 = S)) : o = some (r, S) := by
  obtain ⟨r1, S1, h, rfl, rfl⟩ := h
  exact h
/-- a loop over a counter, its invariant at each count -/
theorem zz_loop {bot : Int32 → sy_St → sy_R} {B : (Int32 → sy_St → sy_R) → Int32 → sy_St → sy_R} {Q : Int32 → sy_St → Prop} (I : Nat → sy_St → Prop) (N : Nat)
    (step : ∀ (k : Int32 → sy_St → sy_R) (i : Nat) (S : sy_St), i < N → I i S → (∀ S1, I (i + 1) S1 → zz_wp (k (nI (i + 1)) S1) Q) → zz_wp (B k (nI i) S) Q)
    (exit : ∀ (k : Int32 → sy_St → sy_R) (S : sy_St), I N S → zz_wp (B k (nI N) S) Q) :
    ∀ (d fuel i : Nat) (S : sy_St), i + d = N → d < fuel → I i S → zz_wp (sy_fix bot B fuel (nI i) S) Q := by
  intro d
  induction d with
  | zero =>
    intro fuel i S hd hf hI
    obtain ⟨f, rfl⟩ : ∃ f, fuel = f + 1 := ⟨fuel - 1, by omega⟩
    have : i = N := by omega
    subst this
    exact exit _ S hI
  | succ d ih =>
    intro fuel i S hd hf hI
    obtain ⟨f, rfl⟩ : ∃ f, fuel = f + 1 := ⟨fuel - 1, by omega⟩
    exact step _ i S (by omega) hI (fun S1 h1 => ih f (i + 1) S1 (by omega) (by omega) h1)
theorem zz_F {d : Nat} (h : d < 10000) : d < sy_F := h
/-! arithmetic -/
theorem zz_max (x y : Int32) : sy_max x y = if x < y then y else x := rfl
theorem zz_min (x y : Int32) : sy_min x y = if y < x then y else x := rfl
theorem zz_abs (x : Int32) : sy_abs x = if 0 ≤ x then x else 0 - x := rfl
theorem zz_up (S : sy_St) (k j : Nat) (v : Int32) (i x : Nat) : sy_up S k j v i x = if i = k then (if x = j then v else S i x) else S i x := by
  unfold sy_up sy_upA upd
  by_cases h : i = k
  · subst h; simp
  · simp [h]
theorem zz_upA (S : sy_St) (k : Nat) (f : Nat → Int32) (i : Nat) : sy_upA S k f i = if i = k then f else S i := rfl
theorem zz_up1 {S : sy_St} {k j : Nat} {v : Int32} {i : Nat} (h : i ≠ k) : sy_up S k j v i = S i := by
  unfold sy_up sy_upA
  rw [if_neg h]
theorem zz_cp (S : sy_St) (a b : Nat) (sp dp n : Int32) (i x : Nat) : sy_cp S a b sp dp n i x = if i = b then (if dp.toNatClampNeg ≤ x ∧ x < dp.toNatClampNeg + n.toNatClampNeg then S a (sp.toNatClampNeg + (x - dp.toNatClampNeg)) else S i x) else S i x := by
  unfold sy_cp sy_upA va_cpy
  by_cases h : i = b
  · subst h; simp
  · simp [h]
theorem zz_cl {n : Nat} (h : n < 2147483648) : (nI n).toNatClampNeg = n := nI_clamp h
theorem zz_lit (n : Nat) : (OfNat.ofNat n : Int32) = nI n := rfl
theorem zz_in {c N : Nat} (h : c < N) (hN : N < 2147483648) : sy_in (nI c) N := nI_in h hN
theorem zz_in' {i : Int32} {n : Nat} (h : ∃ j, j < n ∧ i = nI j) (hn : n < 2147483648) : sy_in i n := by
  obtain ⟨j, hj, rfl⟩ := h
  exact zz_in hj hn
theorem zz_tc (x : Int32) : (x.toNatClampNeg : Int) = if x.toInt < 0 then 0 else x.toInt := by
  have h : x.toNatClampNeg = x.toInt.toNat := rfl
  rw [h]
  split <;> omega
