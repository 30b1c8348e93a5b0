/-! ===== a text: what it tells, by itself; a fault is its kind and its letter ===== -/
abbrev zx_F : Type := Int32 × Nat
def zx_bind {α β : Type} (x : Sum zx_F α) (f : α → Sum zx_F β) : Sum zx_F β := match x with
  | .inl q => .inl q
  | .inr a => f a
theorem zx_bind_l {α β : Type} {q : zx_F} {f : α → Sum zx_F β} : zx_bind (.inl q) f = .inl q := rfl
theorem zx_bind_r {α β : Type} {a : α} {f : α → Sum zx_F β} : zx_bind (.inr a) f = f a := rfl
theorem zx_bind_e {α β : Type} {x : Sum zx_F α} {f : α → Sum zx_F β} {y : β} (h : zx_bind x f = .inr y) : ∃ a, x = .inr a ∧ f a = .inr y := by
  cases x with
  | inl q => exact absurd h (by simp [zx_bind])
  | inr a => exact ⟨a, rfl, h⟩
/-- the end of a run of letters of a kind -/
def zx_ruf (P : Int32 → Bool) (t : Nat → Int32) (n : Nat) : Nat → Nat → Nat
  | 0, a => a
  | k + 1, a => if a < n ∧ P (t a) = true then zx_ruf P t n k (a + 1) else a
def zx_ru (P : Int32 → Bool) (t : Nat → Int32) (n a : Nat) : Nat := zx_ruf P t n (n - a) a
theorem zx_ru_1 {P : Int32 → Bool} {t : Nat → Int32} {n a : Nat} (ha : a < n) (h : P (t a) = true) : zx_ru P t n a = zx_ru P t n (a + 1) := by
  unfold zx_ru
  obtain ⟨k, hk⟩ : ∃ k, n - a = k + 1 := ⟨n - a - 1, by omega⟩
  rw [hk, zx_ruf, if_pos ⟨ha, h⟩, show n - (a + 1) = k by omega]
theorem zx_ru_0 {P : Int32 → Bool} {t : Nat → Int32} {n a : Nat} (h : ¬ (a < n ∧ P (t a) = true)) : zx_ru P t n a = a := by
  unfold zx_ru
  cases n - a with
  | zero => rfl
  | succ k => rw [zx_ruf, if_neg h]
theorem zx_ru_b {P : Int32 → Bool} {t : Nat → Int32} {n : Nat} : ∀ k a, n - a = k → a ≤ n → a ≤ zx_ru P t n a ∧ zx_ru P t n a ≤ n ∧ ¬ (zx_ru P t n a < n ∧ P (t (zx_ru P t n a)) = true) := by
  intro k
  induction k with
  | zero =>
    intro a hk ha
    have : ¬ (a < n ∧ P (t a) = true) := fun q => by omega
    rw [zx_ru_0 this]
    exact ⟨Nat.le_refl _, ha, this⟩
  | succ k ih =>
    intro a hk ha
    by_cases h : a < n ∧ P (t a) = true
    · rw [zx_ru_1 h.1 h.2]
      obtain ⟨a1, a2, a3⟩ := ih (a + 1) (by omega) (by omega)
      exact ⟨by omega, a2, a3⟩
    · rw [zx_ru_0 h]
      exact ⟨Nat.le_refl _, ha, h⟩
def zx_bl : Int32 → Bool := fun x => decide (x = 32)
def zx_dg : Int32 → Bool := fun x => decide (48 ≤ x ∧ x ≤ 57)
def zx_sk (t : Nat → Int32) (n a : Nat) : Nat := zx_ru zx_bl t n a
def zx_fg (t : Nat → Int32) (n a : Nat) : Nat := zx_ru zx_dg t n a
theorem zx_sk_b {t : Nat → Int32} {n a : Nat} (h : a ≤ n) : a ≤ zx_sk t n a ∧ zx_sk t n a ≤ n ∧ ¬ (zx_sk t n a < n ∧ t (zx_sk t n a) = 32) := by
  obtain ⟨a1, a2, a3⟩ := zx_ru_b (P := zx_bl) (t := t) (n := n) _ a rfl h
  refine ⟨a1, a2, fun q => a3 ⟨q.1, ?_⟩⟩
  have := q.2
  unfold zx_sk at this
  simp [zx_bl, this]
theorem zx_sk_i {t : Nat → Int32} {n a : Nat} (h : a ≤ n) : zx_sk t n (zx_sk t n a) = zx_sk t n a := zx_ru_0 (zx_ru_b (P := zx_bl) _ a rfl h).2.2
theorem zx_fg_b {t : Nat → Int32} {n a : Nat} (h : a ≤ n) : a ≤ zx_fg t n a ∧ zx_fg t n a ≤ n := ⟨(zx_ru_b (P := zx_dg) _ a rfl h).1, (zx_ru_b (P := zx_dg) _ a rfl h).2.1⟩
theorem zx_fg_1 {t : Nat → Int32} {n a : Nat} (h : a < n) (hd : zx_dg (t a) = true) : a < zx_fg t n a := by
  have := (zx_fg_b (t := t) (n := n) (a := a + 1) (by omega)).1
  unfold zx_fg at this ⊢
  rw [zx_ru_1 h hd]; omega
theorem zx_fg_0 {t : Nat → Int32} {n a : Nat} (h : ¬ (a < n ∧ zx_dg (t a) = true)) : zx_fg t n a = a := zx_ru_0 h
/-- the first three figures from s on -/
def zx_val (t : Nat → Int32) (s : Nat) : Nat → Int32
  | 0 => 0
  | k + 1 => if k < 3 then zx_val t s k * 10 + t (s + k) - 48 else zx_val t s k
def zx_num (t : Nat → Int32) (n : Nat) (lo hi : Int32) (p : Nat) : Sum zx_F (Int32 × Nat) :=
  if zx_fg t n (zx_sk t n p) = zx_sk t n p then .inl (1, zx_sk t n p)
  else if 3 < zx_fg t n (zx_sk t n p) - zx_sk t n p ∨ zx_val t (zx_sk t n p) (zx_fg t n (zx_sk t n p) - zx_sk t n p) < lo ∨ hi < zx_val t (zx_sk t n p) (zx_fg t n (zx_sk t n p) - zx_sk t n p) then .inl (2, zx_sk t n p)
  else .inr (zx_val t (zx_sk t n p) (zx_fg t n (zx_sk t n p) - zx_sk t n p), zx_fg t n (zx_sk t n p))
def zx_end (t : Nat → Int32) (n p : Nat) : Sum zx_F Nat := if zx_sk t n p < n ∧ t (zx_sk t n p) = 59 then .inr (zx_sk t n p + 1) else .inl (1, zx_sk t n p)
theorem zx_num_r {t : Nat → Int32} {n p : Nat} {lo hi : Int32} {x : Int32 × Nat} (hp : p ≤ n) (h : zx_num t n lo hi p = .inr x) : (lo ≤ x.1 ∧ x.1 ≤ hi) ∧ p < x.2 ∧ x.2 ≤ n := by
  obtain ⟨a1, a2, -⟩ := zx_sk_b (t := t) hp
  obtain ⟨b1, b2⟩ := zx_fg_b (t := t) a2
  unfold zx_num at h
  split at h
  · cases h
  · split at h
    · cases h
    · rename_i h1 h2
      cases h
      simp only
      refine ⟨⟨?_, ?_⟩, by omega, b2⟩
      · have : ¬ zx_val t (zx_sk t n p) (zx_fg t n (zx_sk t n p) - zx_sk t n p) < lo := fun q => h2 (Or.inr (Or.inl q))
        grind
      · have : ¬ hi < zx_val t (zx_sk t n p) (zx_fg t n (zx_sk t n p) - zx_sk t n p) := fun q => h2 (Or.inr (Or.inr q))
        grind
theorem zx_end_r {t : Nat → Int32} {n p q : Nat} (hp : p ≤ n) (h : zx_end t n p = .inr q) : p < q ∧ q ≤ n := by
  obtain ⟨a1, a2, -⟩ := zx_sk_b (t := t) hp
  unfold zx_end at h
  split at h
  · rename_i h1
    cases h
    omega
  · cases h
/-- how many weights, the weights, how many people, their numbers, whether the words were told, the words, whether the fruit was, the fruit -/
abbrev zx_D : Type := Nat × (Nat → Int32) × Nat × (Nat → Int32) × Bool × (Nat → Int32) × Bool × Int32
def zx_wl (t : Nat → Int32) (n : Nat) : Nat → Nat → Nat → (Nat → Int32) → Sum zx_F (Nat × Nat × (Nat → Int32))
  | 0, _, _, _ => .inl (0, 0)
  | k + 1, p, wn, wf => zx_bind (zx_num t n 0 30 p) fun x =>
      if (zx_sk t n x.2 < n ∧ t (zx_sk t n x.2) = 44) ∧ wn + 1 < 12 then zx_wl t n k (zx_sk t n x.2 + 1) (wn + 1) (upd wf wn x.1)
      else zx_bind (zx_end t n x.2) fun q => .inr (q, wn + 1, upd wf wn x.1)
def zx_pf (pf : Nat → Int32) (pn : Nat) (a b c d f : Int32) : Nat → Int32 := fun i => if i = 5 * pn then a else if i = 5 * pn + 1 then b else if i = 5 * pn + 2 then c else if i = 5 * pn + 3 then d else if i = 5 * pn + 4 then f else pf i
def zx_person (t : Nat → Int32) (n p pn : Nat) (pf : Nat → Int32) : Sum zx_F (Nat × (Nat → Int32)) :=
  if pn = 6 then .inl (3, p) else
  zx_bind (zx_num t n 0 4 (p + 1)) fun a => zx_bind (zx_num t n 1 20 a.2) fun b => zx_bind (zx_num t n 1 9 b.2) fun c => zx_bind (zx_num t n 0 9 c.2) fun d => zx_bind (zx_num t n 0 9 d.2) fun f =>
    if ¬ f.1 = 9 ∧ ¬ f.1 < nI pn then .inl (2, zx_sk t n d.2) else zx_bind (zx_end t n f.2) fun q => .inr (q, zx_pf pf pn a.1 b.1 c.1 d.1 (if f.1 = 9 then -1 else f.1))
theorem zx_pf_0 {pf : Nat → Int32} {pn : Nat} {a b c d f : Int32} : zx_pf pf pn a b c d f (5 * pn) = a := if_pos rfl
theorem zx_pf_1 {pf : Nat → Int32} {pn : Nat} {a b c d f : Int32} : zx_pf pf pn a b c d f (5 * pn + 1) = b := by unfold zx_pf; rw [if_neg (by omega), if_pos rfl]
theorem zx_pf_2 {pf : Nat → Int32} {pn : Nat} {a b c d f : Int32} : zx_pf pf pn a b c d f (5 * pn + 2) = c := by unfold zx_pf; rw [if_neg (by omega), if_neg (by omega), if_pos rfl]
theorem zx_pf_3 {pf : Nat → Int32} {pn : Nat} {a b c d f : Int32} : zx_pf pf pn a b c d f (5 * pn + 3) = d := by unfold zx_pf; rw [if_neg (by omega), if_neg (by omega), if_neg (by omega), if_pos rfl]
theorem zx_pf_4 {pf : Nat → Int32} {pn : Nat} {a b c d f : Int32} : zx_pf pf pn a b c d f (5 * pn + 4) = f := by unfold zx_pf; rw [if_neg (by omega), if_neg (by omega), if_neg (by omega), if_neg (by omega), if_pos rfl]
theorem zx_pf_o {pf : Nat → Int32} {pn i : Nat} {a b c d f : Int32} (h : i < 5 * pn) : zx_pf pf pn a b c d f i = pf i := by unfold zx_pf; rw [if_neg (by omega), if_neg (by omega), if_neg (by omega), if_neg (by omega), if_neg (by omega)]
def zx_gf (a b c : Int32) : Nat → Int32 := fun i => if i = 0 then a else if i = 1 then b else c
def zx_words (t : Nat → Int32) (n p : Nat) (gt : Bool) : Sum zx_F (Nat × (Nat → Int32)) :=
  if gt = true then .inl (3, p) else
  zx_bind (zx_num t n 0 9 (p + 1)) fun a => zx_bind (zx_num t n 0 9 a.2) fun b => zx_bind (zx_num t n 0 9 b.2) fun c => zx_bind (zx_end t n c.2) fun q => .inr (q, zx_gf a.1 b.1 c.1)
def zx_fruit (t : Nat → Int32) (n p : Nat) (ft : Bool) : Sum zx_F (Nat × Int32) :=
  if ft = true then .inl (3, p) else zx_bind (zx_num t n 0 99 (p + 1)) fun a => zx_bind (zx_end t n a.2) fun q => .inr (q, a.1)
def zx_clause (t : Nat → Int32) (n p : Nat) : zx_D → Sum zx_F (Nat × zx_D)
  | (wn, wf, pn, pf, gt, gf, ft, fr) =>
    if t p = 119 then (if 0 < wn then .inl (3, p) else zx_bind (zx_wl t n 12 (p + 1) 0 wf) fun r => .inr (r.1, r.2.1, r.2.2, pn, pf, gt, gf, ft, fr))
    else if wn = 0 then .inl (1, p)
    else if t p = 112 then zx_bind (zx_person t n p pn pf) fun r => .inr (r.1, wn, wf, pn + 1, r.2, gt, gf, ft, fr)
    else if t p = 116 then zx_bind (zx_words t n p gt) fun r => .inr (r.1, wn, wf, pn, pf, true, r.2, ft, fr)
    else if t p = 102 then zx_bind (zx_fruit t n p ft) fun r => .inr (r.1, wn, wf, pn, pf, gt, gf, true, r.2)
    else .inl (1, p)
def zx_text (t : Nat → Int32) (n : Nat) : Nat → Nat → zx_D → Sum zx_F zx_D
  | 0, _, D => .inr D
  | k + 1, p, D => if zx_sk t n p < n then zx_bind (zx_clause t n (zx_sk t n p) D) fun r => zx_text t n k r.1 r.2 else .inr D
def zx_e (wf pf gf : Nat → Int32) : Nat → Nat → Int32 := fun a => if a = 1 then wf else if a = 2 then pf else gf
def zx_V (D : zx_D) : Prop := ze_W (zx_e D.2.1 D.2.2.2.1 D.2.2.2.2.2.1) D.1 D.2.2.1
theorem zx_wl_r {t : Nat → Int32} {n : Nat} : ∀ (k p wn : Nat) (wf : Nat → Int32) (r : Nat × Nat × (Nat → Int32)), wn + k ≤ 12 → p ≤ n → (∀ i, i < wn → 0 ≤ wf i ∧ wf i ≤ 30) → zx_wl t n k p wn wf = .inr r → p < r.1 ∧ r.1 ≤ n ∧ 0 < r.2.1 ∧ r.2.1 ≤ 12 ∧ ∀ i, i < r.2.1 → 0 ≤ r.2.2 i ∧ r.2.2 i ≤ 30 := by
  intro k
  induction k with
  | zero => intro p wn wf r _ _ _ h; exact absurd h (by simp [zx_wl])
  | succ k ih =>
    intro p wn wf r hk hp hw h
    rw [zx_wl] at h
    obtain ⟨x, hx, h⟩ := zx_bind_e h
    obtain ⟨⟨x1, x2⟩, x3, x4⟩ := zx_num_r hp hx
    obtain ⟨s1, s2, -⟩ := zx_sk_b (t := t) x4
    have hw2 : ∀ i, i < wn + 1 → 0 ≤ upd wf wn x.1 i ∧ upd wf wn x.1 i ≤ 30 := fun i hi => by
      unfold upd
      by_cases q : i = wn
      · rw [if_pos q]; exact ⟨x1, x2⟩
      · rw [if_neg q]; exact hw i (by omega)
    split at h
    · rename_i h2
      obtain ⟨b1, b2, b3, b4, b5⟩ := ih _ _ _ r (by omega) (by omega) hw2 h
      exact ⟨by omega, b2, b3, b4, b5⟩
    · obtain ⟨q, hq, h⟩ := zx_bind_e h
      obtain ⟨q1, q2⟩ := zx_end_r x4 hq
      cases h
      exact ⟨by simp only; omega, q2, by simp only; omega, by simp only; omega, hw2⟩
theorem zx_clause_V {t : Nat → Int32} {n p : Nat} {D : zx_D} {r : Nat × zx_D} (hp : p < n) (hV : zx_V D) (h : zx_clause t n p D = .inr r) : p < r.1 ∧ r.1 ≤ n ∧ zx_V r.2 := by
  obtain ⟨wn, wf, pn, pf, gt, gf, ft, fr⟩ := D
  unfold zx_clause at h
  obtain ⟨v1, v2, v3, v4⟩ := hV
  simp only at v1 v2 v3 v4 h
  have e1 : ∀ wf pf gf : Nat → Int32, zx_e wf pf gf 1 = wf := fun _ _ _ => rfl
  have e2 : ∀ wf pf gf : Nat → Int32, zx_e wf pf gf 2 = pf := fun _ _ _ => rfl
  simp only [e1, e2] at v3 v4
  split at h
  · split at h
    · cases h
    · obtain ⟨x, hx, h⟩ := zx_bind_e h
      obtain ⟨b1, b2, b3, b4, b5⟩ := zx_wl_r 12 (p + 1) 0 wf x (by omega) (by omega) (fun i hi => absurd hi (by omega)) hx
      cases h
      exact ⟨by simp only; omega, b2, b4, v2, b5, v4⟩
  · split at h
    · cases h
    · split at h
      · obtain ⟨x, hx, h⟩ := zx_bind_e h
        cases h
        unfold zx_person at hx
        split at hx
        · cases hx
        · rename_i hpn
          obtain ⟨a, ha, hx⟩ := zx_bind_e hx
          obtain ⟨b, hb, hx⟩ := zx_bind_e hx
          obtain ⟨c, hc, hx⟩ := zx_bind_e hx
          obtain ⟨d, hd, hx⟩ := zx_bind_e hx
          obtain ⟨f, hf, hx⟩ := zx_bind_e hx
          split at hx
          · cases hx
          · rename_i hfa
            obtain ⟨q, hq, hx⟩ := zx_bind_e hx
            cases hx
            obtain ⟨a1, a2, a3⟩ := zx_num_r (by omega) ha
            obtain ⟨b1, b2, b3⟩ := zx_num_r a3 hb
            obtain ⟨c1, c2, c3⟩ := zx_num_r b3 hc
            obtain ⟨d1, d2, d3⟩ := zx_num_r c3 hd
            obtain ⟨f1, f2, f3⟩ := zx_num_r d3 hf
            obtain ⟨q1, q2⟩ := zx_end_r f3 hq
            refine ⟨by simp only; omega, q2, v1, by simp only; omega, v3, fun i hi => ?_⟩
            simp only [e2] at hi ⊢
            by_cases z : i = pn
            · subst z
              rw [zx_pf_1, zx_pf_2, zx_pf_4]
              refine ⟨⟨c1.2, c1.1⟩, ?_, b1.1, b1.2⟩
              by_cases z9 : f.1 = 9
              · rw [if_pos z9]; exact Or.inl rfl
              · rw [if_neg z9]
                right
                have hlt : f.1 < nI i := by
                  by_cases y : f.1 < nI i
                  · exact y
                  · exact absurd ⟨z9, y⟩ hfa
                rcases pk_ix f.1 (n := i) (by omega) with y | y | y
                · exact absurd y (by have := f1.1; grind)
                · exact absurd y (by grind)
                · exact y
            · have := v4 i (by omega)
              rw [zx_pf_o (by omega), zx_pf_o (by omega), zx_pf_o (by omega)]
              exact this
      · split at h
        · obtain ⟨x, hx, h⟩ := zx_bind_e h
          cases h
          unfold zx_words at hx
          split at hx
          · cases hx
          · obtain ⟨a, ha, hx⟩ := zx_bind_e hx
            obtain ⟨b, hb, hx⟩ := zx_bind_e hx
            obtain ⟨c, hc, hx⟩ := zx_bind_e hx
            obtain ⟨q, hq, hx⟩ := zx_bind_e hx
            cases hx
            obtain ⟨a1, a2, a3⟩ := zx_num_r (by omega) ha
            obtain ⟨b1, b2, b3⟩ := zx_num_r a3 hb
            obtain ⟨c1, c2, c3⟩ := zx_num_r b3 hc
            obtain ⟨q1, q2⟩ := zx_end_r c3 hq
            exact ⟨by simp only; omega, q2, v1, v2, v3, v4⟩
        · split at h
          · obtain ⟨x, hx, h⟩ := zx_bind_e h
            cases h
            unfold zx_fruit at hx
            split at hx
            · cases hx
            · obtain ⟨a, ha, hx⟩ := zx_bind_e hx
              obtain ⟨q, hq, hx⟩ := zx_bind_e hx
              cases hx
              obtain ⟨a1, a2, a3⟩ := zx_num_r (by omega) ha
              obtain ⟨q1, q2⟩ := zx_end_r a3 hq
              exact ⟨by simp only; omega, q2, v1, v2, v3, v4⟩
          · cases h
theorem zx_clause_w {t : Nat → Int32} {n p : Nat} {D : zx_D} {r : Nat × zx_D} (hp : p < n) (h : zx_clause t n p D = .inr r) : 0 < r.2.1 := by
  obtain ⟨wn, wf, pn, pf, gt, gf, ft, fr⟩ := D
  unfold zx_clause at h
  simp only at h
  split at h
  · split at h
    · cases h
    · obtain ⟨x, hx, h⟩ := zx_bind_e h
      obtain ⟨b1, b2, b3, b4, b5⟩ := zx_wl_r 12 (p + 1) 0 wf x (by omega) (by omega) (fun i hi => absurd hi (by omega)) hx
      cases h
      exact b3
  · split at h
    · cases h
    · split at h
      · obtain ⟨x, hx, h⟩ := zx_bind_e h
        cases h; simp only; omega
      · split at h
        · obtain ⟨x, hx, h⟩ := zx_bind_e h
          cases h; simp only; omega
        · split at h
          · obtain ⟨x, hx, h⟩ := zx_bind_e h
            cases h; simp only; omega
          · cases h
theorem zx_clause_p {t : Nat → Int32} {n p : Nat} {D : zx_D} {r : Nat × zx_D} (hp : p < n) (h : zx_clause t n p D = .inr r) : p < r.1 ∧ r.1 ≤ n := by
  obtain ⟨wn, wf, pn, pf, gt, gf, ft, fr⟩ := D
  unfold zx_clause at h
  simp only at h
  split at h
  · split at h
    · cases h
    · obtain ⟨x, hx, h⟩ := zx_bind_e h
      obtain ⟨b1, b2, b3, b4, b5⟩ := zx_wl_r 12 (p + 1) 0 wf x (by omega) (by omega) (fun i hi => absurd hi (by omega)) hx
      cases h
      exact ⟨by simp only; omega, b2⟩
  · split at h
    · cases h
    · split at h
      · obtain ⟨x, hx, h⟩ := zx_bind_e h
        cases h
        unfold zx_person at hx
        split at hx
        · cases hx
        · obtain ⟨a, ha, hx⟩ := zx_bind_e hx
          obtain ⟨b, hb, hx⟩ := zx_bind_e hx
          obtain ⟨c, hc, hx⟩ := zx_bind_e hx
          obtain ⟨d, hd, hx⟩ := zx_bind_e hx
          obtain ⟨f, hf, hx⟩ := zx_bind_e hx
          split at hx
          · cases hx
          · obtain ⟨q, hq, hx⟩ := zx_bind_e hx
            cases hx
            obtain ⟨a1, a2, a3⟩ := zx_num_r (by omega) ha
            obtain ⟨b1, b2, b3⟩ := zx_num_r a3 hb
            obtain ⟨c1, c2, c3⟩ := zx_num_r b3 hc
            obtain ⟨d1, d2, d3⟩ := zx_num_r c3 hd
            obtain ⟨f1, f2, f3⟩ := zx_num_r d3 hf
            obtain ⟨q1, q2⟩ := zx_end_r f3 hq
            exact ⟨by simp only; omega, q2⟩
      · split at h
        · obtain ⟨x, hx, h⟩ := zx_bind_e h
          cases h
          unfold zx_words at hx
          split at hx
          · cases hx
          · obtain ⟨a, ha, hx⟩ := zx_bind_e hx
            obtain ⟨b, hb, hx⟩ := zx_bind_e hx
            obtain ⟨c, hc, hx⟩ := zx_bind_e hx
            obtain ⟨q, hq, hx⟩ := zx_bind_e hx
            cases hx
            obtain ⟨a1, a2, a3⟩ := zx_num_r (by omega) ha
            obtain ⟨b1, b2, b3⟩ := zx_num_r a3 hb
            obtain ⟨c1, c2, c3⟩ := zx_num_r b3 hc
            obtain ⟨q1, q2⟩ := zx_end_r c3 hq
            exact ⟨by simp only; omega, q2⟩
        · split at h
          · obtain ⟨x, hx, h⟩ := zx_bind_e h
            cases h
            unfold zx_fruit at hx
            split at hx
            · cases hx
            · obtain ⟨a, ha, hx⟩ := zx_bind_e hx
              obtain ⟨q, hq, hx⟩ := zx_bind_e hx
              cases hx
              obtain ⟨a1, a2, a3⟩ := zx_num_r (by omega) ha
              obtain ⟨q1, q2⟩ := zx_end_r a3 hq
              exact ⟨by simp only; omega, q2⟩
          · cases h
