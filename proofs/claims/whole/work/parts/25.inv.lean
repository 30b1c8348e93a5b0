/-! ===== what class and reference keep between two calls ===== -/
def zi_edge (S : sy_St) (e : Nat → Nat → Int32) (wc M : Nat) : Prop := ze_W e wc M ∧ ze_M S e wc M ∧ ze_C S e wc M
def zi_now (S : sy_St) (M c : Nat) : Prop := zv_K S 45 = zv_M S 400 0 ∧ zv_W (zv_M S 400 0) M c
def zi_seed (S : sy_St) : Prop := S 0 15 = S 400 6 ∧ 0 ≤ S 400 6
def zi_past (S : sy_St) (M c : Nat) : Prop := ∃ n nx : Nat, n ≤ 60 ∧ nx < 60 ∧ S 55 1 = nI n ∧ S 55 2 = nI nx ∧ S 392 26 = nI n ∧ ∀ i, i < n → zv_K S (57 + 5 * ((nx + 60 - n + i) % 60)) = zv_M S 404 (31 * i) ∧ zv_W (zv_M S 404 (31 * i)) M c
def zi_img (S : sy_St) (M c : Nat) : Prop := ∀ i, i < 2 → S 368 i = S 403 i ∧ (S 368 i = 0 ∨ S 368 i = 1) ∧ (S 368 i = 1 → zv_K S (358 + 5 * i) = zv_M S 402 (31 * i) ∧ zv_W (zv_M S 402 (31 * i)) M c ∧ S 369 i = S 402 (31 * i + 6) ∧ 0 ≤ S 369 i)
def zi_text (S : sy_St) : Prop := ∃ n : Nat, n ≤ 250 ∧ S 35 2 = nI n ∧ S 392 0 = nI n ∧ ∀ i, i < n → S 36 i = S 393 i ∧ 0 ≤ S 393 i
def zi_fault (S : sy_St) : Prop := S 0 14 = S 392 6
def zi_seen (S : sy_St) : Prop := ∃ n : Nat, n ≤ 5 ∧ S 374 7 = nI n ∧ S 392 28 = nI n ∧ ∀ i, i < n → S 377 i = S 405 i
def zi_book (S : sy_St) (M : Nat) : Prop := ∃ n : Nat, n ≤ 20 ∧ S 384 3 = nI n ∧ S 392 30 = nI n ∧ ∀ i, i < n → ∃ p w t : Nat, p < M ∧ w < 3 ∧ t < 2 ∧ S 385 i = nI p ∧ S 406 (3 * i) = nI p ∧ S 386 i = nI w ∧ S 406 (3 * i + 1) = nI w ∧ S 387 i = nI t ∧ S 406 (3 * i + 2) = nI t
def zi_all (S : sy_St) (e : Nat → Nat → Int32) (wc M c : Nat) : Prop := zi_edge S e wc M ∧ zi_now S M c ∧ zi_seed S ∧ zi_past S M c ∧ zi_img S M c ∧ zi_text S ∧ zi_fault S ∧ zi_seen S ∧ zi_book S M
def zi_Inv (S : sy_St) (c : Nat) : Prop := ∃ (e : Nat → Nat → Int32) (wc M : Nat), zi_all S e wc M c
/-! on which places each of it rests -/
def zd_edge (i j : Nat) : Prop := (1 ≤ i ∧ i ≤ 8) ∨ (397 ≤ i ∧ i ≤ 399) ∨ (i = 392 ∧ (j = 17 ∨ j = 19))
def zd_now (i j : Nat) : Prop := (45 ≤ i ∧ i ≤ 49) ∨ (i = 400 ∧ j ≠ 6)
def zd_seed (i j : Nat) : Prop := (i = 0 ∧ j = 15) ∨ (i = 400 ∧ j = 6)
def zd_past (i j : Nat) : Prop := i = 55 ∨ (57 ≤ i ∧ i ≤ 356) ∨ (i = 392 ∧ j = 26) ∨ i = 404
def zd_img (i j : Nat) : Prop := (358 ≤ i ∧ i ≤ 369) ∨ i = 402 ∨ i = 403 ∧ j = j
def zd_text (i j : Nat) : Prop := (i = 35 ∧ j = 2) ∨ i = 36 ∨ (i = 392 ∧ j = 0) ∨ i = 393
def zd_fault (i j : Nat) : Prop := (i = 0 ∧ j = 14) ∨ (i = 392 ∧ j = 6)
def zd_seen (i j : Nat) : Prop := (i = 374 ∧ j = 7) ∨ i = 377 ∨ (i = 392 ∧ j = 28) ∨ i = 405
def zd_book (i j : Nat) : Prop := (i = 384 ∧ j = 3) ∨ (385 ≤ i ∧ i ≤ 387) ∨ (i = 392 ∧ j = 30) ∨ i = 406
/-- S1 is S where D says so -/
def zc_eq (D : Nat → Nat → Prop) (S S1 : sy_St) : Prop := ∀ i j, D i j → S1 i j = S i j
theorem zc_trans {D : Nat → Nat → Prop} {S S1 S2 : sy_St} (h : zc_eq D S S1) (h2 : zc_eq D S1 S2) : zc_eq D S S2 := fun i j d => (h2 i j d).trans (h i j d)
theorem zc_refl {D : Nat → Nat → Prop} {S : sy_St} : zc_eq D S S := fun _ _ _ => rfl
theorem zc_sub {D D2 : Nat → Nat → Prop} {S S1 : sy_St} (h : zc_eq D S S1) (hs : ∀ i j, D2 i j → D i j) : zc_eq D2 S S1 := fun i j d => h i j (hs i j d)
theorem zc_up {D : Nat → Nat → Prop} {S : sy_St} {k x : Nat} {v : Int32} (h : ¬ D k x) : zc_eq D S (sy_up S k x v) := fun i j d => by
  rw [zz_up]
  by_cases a : i = k
  · subst a
    by_cases b : j = x
    · subst b; exact absurd d h
    · rw [if_pos rfl, if_neg b]
  · rw [if_neg a]
theorem zc_o {D : Nat → Nat → Prop} {S S1 : sy_St} {lo hi : Nat} (h : zf_o S S1 lo hi) (hd : ∀ i j, D i j → i < lo ∨ hi < i) : zc_eq D S S1 := fun i j d => by rw [h i (hd i j d)]
theorem zv_Kc {S S1 : sy_St} {k : Nat} (h : ∀ i j, k ≤ i → i ≤ k + 4 → S1 i j = S i j) : zv_K S1 k = zv_K S k := by
  funext j
  unfold zv_K
  rw [h k 5 (by omega) (by omega), h k 6 (by omega) (by omega), h k 7 (by omega) (by omega), h k 8 (by omega) (by omega), h k 9 (by omega) (by omega), h k 10 (by omega) (by omega), h (k + 1) (j - 7) (by omega) (by omega), h (k + 2) (j - 13) (by omega) (by omega), h (k + 3) (j - 19) (by omega) (by omega), h (k + 4) (j - 25) (by omega) (by omega)]
theorem zv_Mc {S S1 : sy_St} {a o : Nat} (h : ∀ j, j < 31 → j ≠ 6 → S1 a (o + j) = S a (o + j)) : zv_M S1 a o = zv_M S a o := by
  funext j
  unfold zv_M
  by_cases h6 : j = 6
  · rw [if_pos h6, if_pos h6]
  · rw [if_neg h6, if_neg h6]
    by_cases h31 : j < 31
    · rw [if_pos h31, if_pos h31, h j h31 h6]
    · rw [if_neg h31, if_neg h31]
theorem zi_edge_f {S S1 : sy_St} {e : Nat → Nat → Int32} {wc M : Nat} (h : zc_eq zd_edge S S1) (g : zi_edge S e wc M) : zi_edge S1 e wc M := by
  obtain ⟨hw, hm, hc⟩ := g
  have q : ∀ i, ((1 ≤ i ∧ i ≤ 8) ∨ (397 ≤ i ∧ i ≤ 399)) → S1 i = S i := fun i hi => by
    funext j
    exact h i j (by unfold zd_edge; omega)
  refine ⟨hw, ?_, ?_⟩
  · unfold ze_M at hm ⊢
    rw [h 392 17 (by unfold zd_edge; omega), h 392 19 (by unfold zd_edge; omega), q 397 (by omega), q 398 (by omega), q 399 (by omega)]
    exact hm
  · unfold ze_C at hc ⊢
    rw [q 1 (by omega), q 2 (by omega), q 3 (by omega), q 4 (by omega), q 5 (by omega), q 6 (by omega), q 7 (by omega), q 8 (by omega)]
    exact hc
theorem zi_now_f {S S1 : sy_St} {M c : Nat} (h : zc_eq zd_now S S1) (g : zi_now S M c) : zi_now S1 M c := by
  unfold zi_now at g ⊢
  rw [zv_Kc (S := S) (S1 := S1) (k := 45) (fun i j a b => h i j (by unfold zd_now; omega)), zv_Mc (S := S) (S1 := S1) (a := 400) (o := 0) (fun j a b => h 400 (0 + j) (by unfold zd_now; omega))]
  exact g
theorem zi_seed_f {S S1 : sy_St} (h : zc_eq zd_seed S S1) (g : zi_seed S) : zi_seed S1 := by
  unfold zi_seed at g ⊢
  rw [h 0 15 (by unfold zd_seed; omega), h 400 6 (by unfold zd_seed; omega)]
  exact g
theorem zi_past_f {S S1 : sy_St} {M c : Nat} (h : zc_eq zd_past S S1) (g : zi_past S M c) : zi_past S1 M c := by
  obtain ⟨n, nx, h1, h2, h3, h4, h5, h6⟩ := g
  refine ⟨n, nx, h1, h2, ?_, ?_, ?_, fun i hi => ?_⟩
  · rw [h 55 1 (by unfold zd_past; omega)]; exact h3
  · rw [h 55 2 (by unfold zd_past; omega)]; exact h4
  · rw [h 392 26 (by unfold zd_past; omega)]; exact h5
  · have hm : (nx + 60 - n + i) % 60 < 60 := Nat.mod_lt _ (by omega)
    rw [zv_Kc (S := S) (S1 := S1) (fun i j a b => h i j (by unfold zd_past; omega)), zv_Mc (S := S) (S1 := S1) (a := 404) (fun j a b => h 404 _ (by unfold zd_past; omega))]
    exact h6 i hi
theorem zi_img_f {S S1 : sy_St} {M c : Nat} (h : zc_eq zd_img S S1) (g : zi_img S M c) : zi_img S1 M c := by
  intro i hi
  rw [h 368 i (by unfold zd_img; omega), h 403 i (by unfold zd_img; omega), zv_Kc (S := S) (S1 := S1) (k := 358 + 5 * i) (fun i j a b => h i j (by unfold zd_img; omega)), zv_Mc (S := S) (S1 := S1) (a := 402) (fun j a b => h 402 _ (by unfold zd_img; omega)), h 369 i (by unfold zd_img; omega), h 402 (31 * i + 6) (by unfold zd_img; omega)]
  exact g i hi
theorem zi_text_f {S S1 : sy_St} (h : zc_eq zd_text S S1) (g : zi_text S) : zi_text S1 := by
  obtain ⟨n, h1, h2, h3, h4⟩ := g
  refine ⟨n, h1, ?_, ?_, fun i hi => ?_⟩
  · rw [h 35 2 (by unfold zd_text; omega)]; exact h2
  · rw [h 392 0 (by unfold zd_text; omega)]; exact h3
  · rw [h 36 i (by unfold zd_text; omega), h 393 i (by unfold zd_text; omega)]; exact h4 i hi
theorem zi_fault_f {S S1 : sy_St} (h : zc_eq zd_fault S S1) (g : zi_fault S) : zi_fault S1 := by
  unfold zi_fault at g ⊢
  rw [h 0 14 (by unfold zd_fault; omega), h 392 6 (by unfold zd_fault; omega)]
  exact g
theorem zi_seen_f {S S1 : sy_St} (h : zc_eq zd_seen S S1) (g : zi_seen S) : zi_seen S1 := by
  obtain ⟨n, h1, h2, h3, h4⟩ := g
  refine ⟨n, h1, ?_, ?_, fun i hi => ?_⟩
  · rw [h 374 7 (by unfold zd_seen; omega)]; exact h2
  · rw [h 392 28 (by unfold zd_seen; omega)]; exact h3
  · rw [h 377 i (by unfold zd_seen; omega), h 405 i (by unfold zd_seen; omega)]; exact h4 i hi
theorem zi_book_f {S S1 : sy_St} {M : Nat} (h : zc_eq zd_book S S1) (g : zi_book S M) : zi_book S1 M := by
  obtain ⟨n, h1, h2, h3, h4⟩ := g
  refine ⟨n, h1, ?_, ?_, fun i hi => ?_⟩
  · rw [h 384 3 (by unfold zd_book; omega)]; exact h2
  · rw [h 392 30 (by unfold zd_book; omega)]; exact h3
  · rw [h 385 i (by unfold zd_book; omega), h 386 i (by unfold zd_book; omega), h 387 i (by unfold zd_book; omega), h 406 (3 * i) (by unfold zd_book; omega), h 406 (3 * i + 1) (by unfold zd_book; omega), h 406 (3 * i + 2) (by unfold zd_book; omega)]; exact h4 i hi
/-- the places on which all of it rests -/
def zd_all (i j : Nat) : Prop := zd_edge i j ∨ zd_now i j ∨ zd_seed i j ∨ zd_past i j ∨ zd_img i j ∨ zd_text i j ∨ zd_fault i j ∨ zd_seen i j ∨ zd_book i j
theorem zi_all_f {S S1 : sy_St} {e : Nat → Nat → Int32} {wc M c : Nat} (h : zc_eq zd_all S S1) (g : zi_all S e wc M c) : zi_all S1 e wc M c := by
  obtain ⟨g1, g2, g3, g4, g5, g6, g7, g8, g9⟩ := g
  exact ⟨zi_edge_f (zc_sub h (fun _ _ d => Or.inl d)) g1, zi_now_f (zc_sub h (fun _ _ d => Or.inr (Or.inl d))) g2, zi_seed_f (zc_sub h (fun _ _ d => Or.inr (Or.inr (Or.inl d)))) g3, zi_past_f (zc_sub h (fun _ _ d => Or.inr (Or.inr (Or.inr (Or.inl d))))) g4, zi_img_f (zc_sub h (fun _ _ d => Or.inr (Or.inr (Or.inr (Or.inr (Or.inl d)))))) g5, zi_text_f (zc_sub h (fun _ _ d => Or.inr (Or.inr (Or.inr (Or.inr (Or.inr (Or.inl d))))))) g6, zi_fault_f (zc_sub h (fun _ _ d => Or.inr (Or.inr (Or.inr (Or.inr (Or.inr (Or.inr (Or.inl d)))))))) g7, zi_seen_f (zc_sub h (fun _ _ d => Or.inr (Or.inr (Or.inr (Or.inr (Or.inr (Or.inr (Or.inr (Or.inl d))))))))) g8, zi_book_f (zc_sub h (fun _ _ d => Or.inr (Or.inr (Or.inr (Or.inr (Or.inr (Or.inr (Or.inr (Or.inr d))))))))) g9⟩
theorem zv_W_m {v : Nat → Int32} {M c c2 : Nat} (h : zv_W v M c) (hc : c ≤ c2) : zv_W v M c2 := by
  obtain ⟨⟨t, a, b⟩, r⟩ := h
  exact ⟨⟨t, by omega, b⟩, r⟩
theorem zi_all_m {S : sy_St} {e : Nat → Nat → Int32} {wc M c c2 : Nat} (hc : c ≤ c2) (g : zi_all S e wc M c) : zi_all S e wc M c2 := by
  obtain ⟨g1, g2, g3, ⟨n, nx, h1, h2, h3, h4, h5, h6⟩, g5, g6, g7, g8, g9⟩ := g
  exact ⟨g1, ⟨g2.1, zv_W_m g2.2 hc⟩, g3, ⟨n, nx, h1, h2, h3, h4, h5, fun i hi => ⟨(h6 i hi).1, zv_W_m (h6 i hi).2 hc⟩⟩, fun i hi => ⟨(g5 i hi).1, (g5 i hi).2.1, fun q => ⟨((g5 i hi).2.2 q).1, zv_W_m ((g5 i hi).2.2 q).2.1 hc, ((g5 i hi).2.2 q).2.2⟩⟩, g6, g7, g8, g9⟩
/-- a call of both: the answers are the same, and what is kept is kept -/
def zo_ok (f g : sy_St → sy_R) : Prop := ∀ (S : sy_St) (e : Nat → Nat → Int32) (wc M c : Nat), c < 1000000 → zi_all S e wc M c → zz_wp (f S) (fun r S1 => zz_wp (g S1) (fun r2 S2 => r2 = r ∧ zi_Inv S2 (c + 100)))
theorem zo_same {S : sy_St} {e : Nat → Nat → Int32} {wc M c : Nat} (g : zi_all S e wc M c) : zi_Inv S (c + 100) := ⟨e, wc, M, zi_all_m (by omega) g⟩
/-- a person or none -/
theorem zo_person (p : Int32) {M : Nat} (hM : M ≤ 6) : (∃ j, j < M ∧ p = nI j) ∨ ((p < 0 ∨ nI M ≤ p)) := by
  rcases pk_ix p (n := M) (by omega) with h | h | h
  · exact Or.inr (Or.inl h)
  · exact Or.inr (Or.inr h)
  · exact Or.inl h
theorem zp_isPerson_f {S : sy_St} {k M : Nat} {p : Int32} (hM : S k 8 = nI M) (h : p < 0 ∨ nI M ≤ p) : m_Edge_isPerson k p S = some (0, S) := by
  unfold m_Edge_isPerson
  rw [hM]
  rcases h with h | h
  · rw [if_pos h]
  · by_cases a : p < 0
    · rw [if_pos a]
    · rw [if_neg a, if_pos h]
theorem zq_isOne_f {S : sy_St} {M : Nat} {p : Int32} (hM : S 392 19 = nI M) (h6 : M ≤ 6) (h : p < 0 ∨ nI M ≤ p) : m_Model_isOne p S = some (0, S) := by
  unfold m_Model_isOne m_Model_in
  rw [hM]
  have : p < 0 ∨ nI M - 1 < p := by
    rcases h with h | h
    · exact Or.inl h
    · right
      have hb : 0 ≤ nI M ∧ nI M ≤ 6 := ⟨nI_pos' (by omega), by rw [show (6 : Int32) = nI 6 from rfl]; exact nI_le (by omega) (by omega)⟩
      generalize nI M = m at *
      grind
  rcases this with a | a
  · rw [if_pos a]; rfl
  · by_cases b : p < 0
    · rw [if_pos b]; rfl
    · rw [if_neg b, if_pos a]; rfl
