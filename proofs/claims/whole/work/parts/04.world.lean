/-! ===== the world: the graph of objects stands still, ints move: S k j is field or element j of cell k ===== -/
abbrev sy_St : Type := Nat → Nat → Int32
def sy_upA (S : sy_St) (k : Nat) (f : Nat → Int32) : sy_St := fun i => if i = k then f else S i
def sy_up (S : sy_St) (k j : Nat) (v : Int32) : sy_St := sy_upA S k (upd (S k) j v)
/-- how many cells, the kind of each, its length, its references -/
abbrev sy_GT : Type := Nat × (Nat → Nat) × (Nat → Nat) × (Nat → Nat → Option Nat)
abbrev sy_ET : Type := va_G × ClassId × ClassId × ClassId × (Nat → Nat) × sy_GT
def sy_D (E : sy_ET) : va_G := E.1
def sy_I (E : sy_ET) : ClassId := E.2.1
def sy_Z (E : sy_ET) : ClassId := E.2.2.1
def sy_Y (E : sy_ET) : ClassId := E.2.2.2.1
def sy_ad (E : sy_ET) : Nat → Nat := E.2.2.2.2.1
def sy_n (E : sy_ET) : Nat := E.2.2.2.2.2.1
def sy_k (E : sy_ET) : Nat → Nat := E.2.2.2.2.2.2.1
def sy_l (E : sy_ET) : Nat → Nat := E.2.2.2.2.2.2.2.1
def sy_r (E : sy_ET) : Nat → Nat → Option Nat := E.2.2.2.2.2.2.2.2
def sy_rv (E : sy_ET) (k j : Nat) : Value := va_rf ((sy_r E k j).map (sy_ad E))
def sy_f0 (E : sy_ET) (k : Nat) (f : Nat → Int32) : List Value := [sy_rv E k 0, sy_rv E k 1, sy_rv E k 2, .int (f 3)]
def sy_f1 (E : sy_ET) (k : Nat) (f : Nat → Int32) : List Value := [sy_rv E k 0, sy_rv E k 1, sy_rv E k 2, sy_rv E k 3, sy_rv E k 4, .int (f 5)]
def sy_f2 (E : sy_ET) (k : Nat) (f : Nat → Int32) : List Value := [sy_rv E k 0, sy_rv E k 1, sy_rv E k 2]
def sy_f3 (E : sy_ET) (k : Nat) (f : Nat → Int32) : List Value := [sy_rv E k 0, sy_rv E k 1, sy_rv E k 2, sy_rv E k 3, sy_rv E k 4, sy_rv E k 5, sy_rv E k 6, .int (f 7), .int (f 8), .int (f 9)]
def sy_f4 (E : sy_ET) (k : Nat) (f : Nat → Int32) : List Value := [.int (f 0), .int (f 1), .int (f 2), .int (f 3), .int (f 4), .int (f 5), .int (f 6), .int (f 7)]
def sy_f5 (E : sy_ET) (k : Nat) (f : Nat → Int32) : List Value := [sy_rv E k 0, .int (f 1), .int (f 2)]
def sy_f6 (E : sy_ET) (k : Nat) (f : Nat → Int32) : List Value := [sy_rv E k 0, sy_rv E k 1, .int (f 2), .int (f 3), .int (f 4), .int (f 5), .int (f 6), .int (f 7), .int (f 8)]
def sy_f7 (E : sy_ET) (k : Nat) (f : Nat → Int32) : List Value := [sy_rv E k 0, sy_rv E k 1, sy_rv E k 2, sy_rv E k 3, .int (f 4), sy_rv E k 5, sy_rv E k 6, .int (f 7), .int (f 8), .int (f 9)]
def sy_f8 (E : sy_ET) (k : Nat) (f : Nat → Int32) : List Value := [sy_rv E k 0, sy_rv E k 1, sy_rv E k 2, sy_rv E k 3, .int (f 4), sy_rv E k 5, .int (f 6), .int (f 7), .int (f 8)]
def sy_f9 (E : sy_ET) (k : Nat) (f : Nat → Int32) : List Value := [sy_rv E k 0, sy_rv E k 1, sy_rv E k 2, sy_rv E k 3, sy_rv E k 4, .int (f 5), .int (f 6), .int (f 7), .int (f 8), .int (f 9), .int (f 10)]
def sy_f10 (E : sy_ET) (k : Nat) (f : Nat → Int32) : List Value := [sy_rv E k 0, sy_rv E k 1, sy_rv E k 2, sy_rv E k 3, sy_rv E k 4, sy_rv E k 5, sy_rv E k 6, sy_rv E k 7, sy_rv E k 8, sy_rv E k 9, sy_rv E k 10, sy_rv E k 11, sy_rv E k 12, sy_rv E k 13, .int (f 14), .int (f 15)]
def sy_f11 (E : sy_ET) (k : Nat) (f : Nat → Int32) : List Value := [.int (f 0), sy_rv E k 1, .int (f 2), .int (f 3), .int (f 4), .int (f 5), .int (f 6), .int (f 7), .int (f 8), sy_rv E k 9, .int (f 10), sy_rv E k 11, sy_rv E k 12, .int (f 13), .int (f 14), .int (f 15), .int (f 16), .int (f 17), sy_rv E k 18, .int (f 19), sy_rv E k 20, sy_rv E k 21, sy_rv E k 22, sy_rv E k 23, sy_rv E k 24, sy_rv E k 25, .int (f 26), sy_rv E k 27, .int (f 28), sy_rv E k 29, .int (f 30), sy_rv E k 31, sy_rv E k 32, sy_rv E k 33, sy_rv E k 34]
def sy_en (E : sy_ET) (k : Nat) (f : Nat → Int32) : va_E := match sy_k E k with
  | 0 => .inr (0, sy_f0 E k f)
  | 1 => .inr (1, sy_f1 E k f)
  | 2 => .inr (2, sy_f2 E k f)
  | 3 => .inr (3, sy_f3 E k f)
  | 4 => .inr (4, sy_f4 E k f)
  | 5 => .inr (5, sy_f5 E k f)
  | 6 => .inr (6, sy_f6 E k f)
  | 7 => .inr (7, sy_f7 E k f)
  | 8 => .inr (8, sy_f8 E k f)
  | 9 => .inr (9, sy_f9 E k f)
  | 10 => .inr (10, sy_f10 E k f)
  | 11 => .inr (11, sy_f11 E k f)
  | 12 => .inl (sy_I E, sy_l E k, .inl f)
  | 13 => .inl (sy_Z E, sy_l E k, .inl f)
  | _ => .inl (sy_Y E, sy_l E k, .inr (.inr (.inr (.inr (fun j => (sy_r E k j).map (sy_ad E))))))
theorem sy_en0 {E : sy_ET} {k : Nat} {f : Nat → Int32} (h : sy_k E k = 0) : sy_en E k f = .inr (0, sy_f0 E k f) := by simp only [sy_en, h]
theorem sy_en1 {E : sy_ET} {k : Nat} {f : Nat → Int32} (h : sy_k E k = 1) : sy_en E k f = .inr (1, sy_f1 E k f) := by simp only [sy_en, h]
theorem sy_en2 {E : sy_ET} {k : Nat} {f : Nat → Int32} (h : sy_k E k = 2) : sy_en E k f = .inr (2, sy_f2 E k f) := by simp only [sy_en, h]
theorem sy_en3 {E : sy_ET} {k : Nat} {f : Nat → Int32} (h : sy_k E k = 3) : sy_en E k f = .inr (3, sy_f3 E k f) := by simp only [sy_en, h]
theorem sy_en4 {E : sy_ET} {k : Nat} {f : Nat → Int32} (h : sy_k E k = 4) : sy_en E k f = .inr (4, sy_f4 E k f) := by simp only [sy_en, h]
theorem sy_en5 {E : sy_ET} {k : Nat} {f : Nat → Int32} (h : sy_k E k = 5) : sy_en E k f = .inr (5, sy_f5 E k f) := by simp only [sy_en, h]
theorem sy_en6 {E : sy_ET} {k : Nat} {f : Nat → Int32} (h : sy_k E k = 6) : sy_en E k f = .inr (6, sy_f6 E k f) := by simp only [sy_en, h]
theorem sy_en7 {E : sy_ET} {k : Nat} {f : Nat → Int32} (h : sy_k E k = 7) : sy_en E k f = .inr (7, sy_f7 E k f) := by simp only [sy_en, h]
theorem sy_en8 {E : sy_ET} {k : Nat} {f : Nat → Int32} (h : sy_k E k = 8) : sy_en E k f = .inr (8, sy_f8 E k f) := by simp only [sy_en, h]
theorem sy_en9 {E : sy_ET} {k : Nat} {f : Nat → Int32} (h : sy_k E k = 9) : sy_en E k f = .inr (9, sy_f9 E k f) := by simp only [sy_en, h]
theorem sy_en10 {E : sy_ET} {k : Nat} {f : Nat → Int32} (h : sy_k E k = 10) : sy_en E k f = .inr (10, sy_f10 E k f) := by simp only [sy_en, h]
theorem sy_en11 {E : sy_ET} {k : Nat} {f : Nat → Int32} (h : sy_k E k = 11) : sy_en E k f = .inr (11, sy_f11 E k f) := by simp only [sy_en, h]
theorem sy_en12 {E : sy_ET} {k : Nat} {f : Nat → Int32} (h : sy_k E k = 12) : sy_en E k f = .inl (sy_I E, sy_l E k, .inl f) := by simp only [sy_en, h]
theorem sy_en13 {E : sy_ET} {k : Nat} {f : Nat → Int32} (h : sy_k E k = 13) : sy_en E k f = .inl (sy_Z E, sy_l E k, .inl f) := by simp only [sy_en, h]
theorem sy_en14 {E : sy_ET} {k : Nat} {f : Nat → Int32} (h : sy_k E k = 14) : sy_en E k f = .inl (sy_Y E, sy_l E k, .inr (.inr (.inr (.inr (fun j => (sy_r E k j).map (sy_ad E)))))) := by simp only [sy_en, h]
def sy_wl (E : sy_ET) (S : sy_St) : va_W := (List.range (sy_n E)).map (fun k => (sy_ad E k, sy_en E k (S k)))
theorem sy_wl_at {E : sy_ET} {S : sy_St} {k : Nat} (hk : k < sy_n E) : (sy_wl E S)[k]? = some (sy_ad E k, sy_en E k (S k)) := by
  unfold sy_wl
  rw [List.getElem?_map, List.getElem?_range hk]
  rfl
theorem sy_wl_no {E : sy_ET} {S : sy_St} {k : Nat} (hk : ¬ k < sy_n E) : (sy_wl E S)[k]? = none := by
  apply List.getElem?_eq_none
  unfold sy_wl
  rw [List.length_map, List.length_range]
  omega
theorem sy_wl_set {E : sy_ET} {S : sy_St} {k : Nat} {f : Nat → Int32} : (sy_wl E S).set k (sy_ad E k, sy_en E k f) = sy_wl E (sy_upA S k f) := by
  apply List.ext_getElem?
  intro i
  rw [List.getElem?_set]
  by_cases hi : i < sy_n E
  · rw [sy_wl_at hi]
    by_cases hk : k = i
    · subst hk
      rw [if_pos rfl, sy_wl_at hi]
      simp [sy_upA]
      unfold sy_wl
      rw [List.length_map, List.length_range]
      exact hi
    · rw [if_neg hk, sy_wl_at hi]
      simp [sy_upA, Ne.symm hk]
  · rw [sy_wl_no hi]
    by_cases hk : k = i
    · subst hk
      rw [if_pos rfl]
      have : ¬ k < (sy_wl E S).length := by
        unfold sy_wl
        rw [List.length_map, List.length_range]
        exact hi
      rw [if_neg this, sy_wl_no hi]
    · rw [if_neg hk, sy_wl_no hi]
def sy_ty (E : sy_ET) : List (ClassId × FieldType) := [(sy_I E, .int), (sy_Z E, .boolean), (sy_Y E, .object "SkyTurns$Sky")]
/-- words that calls ask and that no list keeps: private members of nest mates, abstract methods -/
def sy_Nw (U : State) : Prop := va_Nw (.methodLinkNest RX10 72 yX11_isWord RX11) U ∧ va_Nw (.methodLinkNest RX11 23 yX6_init RX11) U ∧ va_Nw (.methodLinkNest RX11 79 yX0_init RX11) U ∧ va_Nw (.methodLinkNest RX11 93 yX4_init RX11) U ∧ va_Nw (.declares ⟨RX7, "tryRows", "(LSkyTurns$Sky;I)V"⟩) U ∧ va_Nw (.declares ⟨RX7, "endRow", "()V"⟩) U ∧ va_Nw (.declares ⟨RX7, "fits", "(III)Z"⟩) U
theorem sy_Nw.warm {s U : State} (hW : s.WarmedH U.vm) (h : sy_Nw s) : sy_Nw U := by
  obtain ⟨a1, a2, a3, a4, a5, a6, a7⟩ := h
  exact ⟨a1.warmM hW, a2.warmM hW, a3.warmM hW, a4.warmM hW, a5.warmD hW, a6.warmD hW, a7.warmD hW⟩
theorem sy_Nw.same {u U : State} (hv : u.vm = U.vm) (h : sy_Nw u) : sy_Nw U := by
  obtain ⟨a1, a2, a3, a4, a5, a6, a7⟩ := h
  exact ⟨va_Nw.same rfl hv a1, va_Nw.same rfl hv a2, va_Nw.same rfl hv a3, va_Nw.same rfl hv a4, va_Nw.same rfl hv a5, va_Nw.same rfl hv a6, va_Nw.same rfl hv a7⟩
def sy_Wd (E : sy_ET) (A : Nat → Prop) (s : State) (S : sy_St) (H : Heap) (locs : List Loc) : Prop :=
  (va_K (sy_D E) vwCl (sy_ty E) s ∧ sy_Nw s) ∧ va_P (sy_D E) vwCl (sy_wl E S) H ∧ va_D A (sy_wl E S) ∧ va_S A s.heap H locs
/-- an int array, a boolean array, of that length -/
def sy_isI (E : sy_ET) (a n : Nat) : Prop := a < sy_n E ∧ sy_k E a = 12 ∧ sy_l E a = n
def sy_isZ (E : sy_ET) (a n : Nat) : Prop := a < sy_n E ∧ sy_k E a = 13 ∧ sy_l E a = n
def sy_isY (E : sy_ET) (a n : Nat) : Prop := a < sy_n E ∧ sy_k E a = 14 ∧ sy_l E a = n
def sy_isO (E : sy_ET) (ci k : Nat) : Prop := k < sy_n E ∧ sy_k E k = ci
/-! ===== contracts ===== -/
def sy_pre (E : sy_ET) (sz : Nat) (S : sy_St) : State → Prop := fun U => U.heap.size = sz ∧ va_P (sy_D E) vwCl (sy_wl E S) U.heap ∧ va_K (sy_D E) vwCl (sy_ty E) U ∧ va_D (fun _ => True) (sy_wl E S) ∧ sy_Nw U
def sy_pos (E : sy_ET) (A : Nat → Prop) : sy_St → State → Prop := fun S t => va_P (sy_D E) vwCl (sy_wl E S) t.heap ∧ va_K (sy_D E) vwCl (sy_ty E) t ∧ va_D A (sy_wl E S)
abbrev sy_rm (f n : Nat) : Room := { frames := f, cells := 0, slots := 0, locals := n }
abbrev sy_ws (y : MethodName) (b : ByteArray) (n : Nat) (ret : Option FieldType) : List Cond := Cond.code y b n ret :: sy_W
abbrev sy_Qi (E : sy_ET) (A : Nat → Prop) (r : Int32) (S' : sy_St) : Array Value → State → Outcome → State → Prop := va_Qi (fun (r1 : Int32) (S1 : sy_St) => r1 = r ∧ S1 = S') (sy_pos E A) A
abbrev sy_Qv (E : sy_ET) (A : Nat → Prop) (S' : sy_St) : Array Value → State → Outcome → State → Prop := va_Qv (fun (S1 : sy_St) => S1 = S') (sy_pos E A) A
def sy_MI (l : Launch) (y : MethodName) (b : ByteArray) (n : Nat) (ret : Option FieldType) (f ln : Nat) (av : List Value) (E : sy_ET) (S : sy_St) (r : Int32) (S' : sy_St) : Prop :=
  ∀ sz : Nat, Met l y (sy_ws y b n ret) (sy_rm f ln) (va_Pc av (sy_pre E sz S)) (sy_Qi E (va_A (sy_wl E S) sz) r S') 0 0 (va_A (sy_wl E S) sz)
def sy_MV (l : Launch) (y : MethodName) (b : ByteArray) (n : Nat) (f ln : Nat) (av : List Value) (E : sy_ET) (S : sy_St) (S' : sy_St) : Prop :=
  ∀ sz : Nat, Met l y (sy_ws y b n none) (sy_rm f ln) (va_Pc av (sy_pre E sz S)) (sy_Qv E (va_A (sy_wl E S) sz) S') 0 0 (va_A (sy_wl E S) sz)
theorem sy_MI_of {l : Launch} {y : MethodName} {b : ByteArray} {n : Nat} {ret : Option FieldType} {f ln : Nat} {av : List Value} {E : sy_ET} {S : sy_St} {r : Int32} {S' : sy_St} (own : String) (hy : plainName y.cls = true) (ho : y.cls = own) (hn : (lg_sl av).length ≤ n)
    (k : ∀ (p : Program) (e : Env) (s : State) (m : MethodId) (args : Array Value) (below : List Frame) (meth : Method) (c : Code) (A : Nat → Prop) (ls : Array Slot), CallFix p m c b n s args sy_W own → meth.sig.returnType = ret → meth.locks = false → (∀ q, s.heap.size ≤ q → A q) → sy_Wd E A s S s.heap [] → lv_has ls n (lv_args 0 av) →
      W p l e (sy_rm f ln) s m args below meth c s.heap [] 0 0 (MQ below (sy_Qi E A r S') args s 0 0 A) (F0 m 0 ls [])) : sy_MI l y b n ret f ln av E S r S' := by
  intro sz
  refine Met.ofW (cc := b) (maxL := n) (ret := ret) hy rfl ?_
  intro p e s m args below meth c s₁ B hml hv
  obtain ⟨rfl, hsz, hP, hK, hD0, hN⟩ := hv
  have hts := atoms_spec (ws := sy_ws y b n ret) B.pre
  have hown : s.vm.findClass own = some m.cls := by rw [← ho]; exact findClass_of_methodNamed B.named
  subst hsz
  have hD := hD0.self (sz := s.heap.size)
  rw [lg_entry_eq]
  exact k p e s m _ below meth c _ _ ⟨B.exec, B.bytes, hml, hown, fun w h => hts w (List.mem_cons_of_mem _ h)⟩ B.returns B.notSynchronized (fun q h => Or.inr h) ⟨⟨hK, hN⟩, hP, hD, va_S.rf⟩ (lv_entry av hn)
theorem sy_MV_of {l : Launch} {y : MethodName} {b : ByteArray} {n : Nat} {f ln : Nat} {av : List Value} {E : sy_ET} {S : sy_St} {S' : sy_St} (own : String) (hy : plainName y.cls = true) (ho : y.cls = own) (hn : (lg_sl av).length ≤ n)
    (k : ∀ (p : Program) (e : Env) (s : State) (m : MethodId) (args : Array Value) (below : List Frame) (meth : Method) (c : Code) (A : Nat → Prop) (ls : Array Slot), CallFix p m c b n s args sy_W own → meth.sig.returnType = none → meth.locks = false → (∀ q, s.heap.size ≤ q → A q) → sy_Wd E A s S s.heap [] → lv_has ls n (lv_args 0 av) →
      W p l e (sy_rm f ln) s m args below meth c s.heap [] 0 0 (MQ below (sy_Qv E A S') args s 0 0 A) (F0 m 0 ls [])) : sy_MV l y b n f ln av E S S' := by
  intro sz
  refine Met.ofW (cc := b) (maxL := n) (ret := none) hy rfl ?_
  intro p e s m args below meth c s₁ B hml hv
  obtain ⟨rfl, hsz, hP, hK, hD0, hN⟩ := hv
  have hts := atoms_spec (ws := sy_ws y b n none) B.pre
  have hown : s.vm.findClass own = some m.cls := by rw [← ho]; exact findClass_of_methodNamed B.named
  subst hsz
  have hD := hD0.self (sz := s.heap.size)
  rw [lg_entry_eq]
  exact k p e s m _ below meth c _ _ ⟨B.exec, B.bytes, hml, hown, fun w h => hts w (List.mem_cons_of_mem _ h)⟩ B.returns B.notSynchronized (fun q h => Or.inr h) ⟨⟨hK, hN⟩, hP, hD, va_S.rf⟩ (lv_entry av hn)
/-! ===== the words of a pure program ===== -/
def sy_b {α β : Type} (v : α) (f : α → β) : β := f v
theorem sy_b_e {α β : Type} {v : α} {f : α → β} {r : β} (h : sy_b v f = r) : ∃ x, x = v ∧ f x = r := ⟨v, rfl, h⟩
def sy_g {β : Type} (c : Prop) [Decidable c] (k : Option β) : Option β := if c then k else none
theorem sy_g_e {β : Type} {c : Prop} [Decidable c] {k : Option β} {r : β} (h : sy_g c k = some r) : c ∧ k = some r := by
  unfold sy_g at h
  by_cases hc : c
  · rw [if_pos hc] at h; exact ⟨hc, h⟩
  · rw [if_neg hc] at h; cases h
theorem sy_t {α : Type} {c : Prop} [Decidable c] {a b r : α} (hc : c) (h : (if c then a else b) = r) : a = r := by rw [if_pos hc] at h; exact h
theorem sy_f {α : Type} {c : Prop} [Decidable c] {a b r : α} (hc : ¬ c) (h : (if c then a else b) = r) : b = r := by rw [if_neg hc] at h; exact h
abbrev sy_R : Type := Option (Int32 × sy_St)
def sy_c (o : sy_R) (f : Int32 → sy_St → sy_R) : sy_R := match o with
  | none => none
  | some x => f x.1 x.2
theorem sy_c_e {o : sy_R} {f : Int32 → sy_St → sy_R} {r : Int32 × sy_St} (h : sy_c o f = some r) : ∃ (x : Int32) (S : sy_St), o = some (x, S) ∧ f x S = some r := by
  cases o with
  | none => cases h
  | some q => exact ⟨q.1, q.2, rfl, h⟩
theorem sy_r_e {x r : Int32} {S S' : sy_St} (h : (some (x, S) : sy_R) = some (r, S')) : x = r ∧ S = S' := by cases h; exact ⟨rfl, rfl⟩
abbrev sy_in (i : Int32) (n : Nat) : Prop := ¬ (i < 0 ∨ n ≤ i.toNatClampNeg)

/-! ===== rows ===== -/
section SYR
variable {p : Program} {l : Launch} {e : Env} {R : Room} {s : State} {m : MethodId} {args : Array Value} {below : List Frame} {meth : Method} {c : Code} {H : Heap} {locs : List Loc} {cells slots : Nat} {Q : State → Prop}
variable {cc : ByteArray} {pc nL : Nat} {ls : Array Slot} {rest : List Value} {A : Nat → Prop} {E : sy_ET} {S : sy_St} {own : String}
theorem sy_top {x y : Int32} (hxy : y = x) (k : W p l e R s m args below meth c H locs cells slots Q (F0 m pc ls (.int y :: rest))) : W p l e R s m args below meth c H locs cells slots Q (F0 m pc ls (.int x :: rest)) := by rw [← hxy]; exact k
theorem sy_topl {x y : Int64} (hxy : y = x) (k : W p l e R s m args below meth c H locs cells slots Q (F0 m pc ls (.long y :: rest))) : W p l e R s m args below meth c H locs cells slots Q (F0 m pc ls (.long x :: rest)) := by rw [← hxy]; exact k
theorem sy_get (fx : CallFix p m c cc nL s args sy_W own) (X : sy_Wd E A s S H locs) {k ci : Nat} {C : String} {T : u_T} {N : Nat} {fs : List Value} (hk : k < sy_n E) (he : sy_en E k (S k) = .inr (ci, fs)) (hc : vwCl[ci]? = some (C, T, N)) (hin : ∀ w ∈ u_ws C T N, w ∈ sy_W) (j : Nat) (hj : j < N) {index : Nat} {ref : String} (hl : Cond.fieldLink own index ref (T j).2.1 (T j).2.2.1 ∈ sy_W) (hsame : ∀ x, s.fieldFound? (T j).1 (T j).2.1 (T j).2.2.1 = some x → s.fieldFound? ref (T j).2.1 (T j).2.2.1 = some x) {v : Value} (hv : fs[j]? = some v) (hdg : decode cc pc = .ok (.getfield index, 3))
    (kk : W p l e R s m args below meth c H locs cells slots Q (F0 m (pc + 3) ls (v :: rest))) : W p l e R s m args below meth c H locs cells slots Q (F0 m pc ls (.ref (sy_ad E k) :: rest)) := by
  obtain ⟨hx, hb, hml, hown, hts⟩ := fx
  obtain ⟨⟨hK, hN⟩, hP, hD, hS⟩ := X
  exact va_get hx hb hts hin hown hK hP k (by rw [sy_wl_at hk, he]) hc j hj (hts _ hl) hsame hv hdg kk
theorem sy_put (fx : CallFix p m c cc nL s args sy_W own) (X : sy_Wd E A s S H locs) {k ci : Nat} {C : String} {T : u_T} {N : Nat} {fs : List Value} (hk : k < sy_n E) (he : sy_en E k (S k) = .inr (ci, fs)) (hc : vwCl[ci]? = some (C, T, N)) (hin : ∀ w ∈ u_ws C T N, w ∈ sy_W) (ty0 : Nat → FieldType) (hty : ∀ k, k < N → parseFieldDescriptor (T k).2.2.1 = some (ty0 k)) (hnm : ∀ a, a < N → ∀ b, b < N → a ≠ b → (T a).2.1 ≠ (T b).2.1) (j : Nat) (hj : j < N) {index : Nat} {ref : String} (hl : Cond.fieldLink own index ref (T j).2.1 (T j).2.2.1 ∈ sy_W) (hsame : ∀ x, s.fieldFound? (T j).1 (T j).2.1 (T j).2.2.1 = some x → s.fieldFound? ref (T j).2.1 (T j).2.2.1 = some x) (hfin : (T j).2.2.2 = false) {ty : FieldType} {v : Int32} (hd : parseFieldDescriptor (T j).2.2.1 = some ty) (hn : narrow ty (.int v) = .int v) (hfit : fits ty (.int v) = true) (hlen : j < fs.length)
    {S1 : sy_St} (hS1 : S1 = sy_up S k j v) (hset : (.inr (ci, fs.set j (.int v)) : va_E) = sy_en E k (upd (S k) j v)) (hdg : decode cc pc = .ok (.putfield index, 3))
    (kk : ∀ (H1 : Heap) (locs1 : List Loc), sy_Wd E A s S1 H1 locs1 → W p l e R s m args below meth c H1 locs1 cells slots Q (F0 m (pc + 3) ls rest)) : W p l e R s m args below meth c H locs cells slots Q (F0 m pc ls (.int v :: .ref (sy_ad E k) :: rest)) := by
  obtain ⟨hx, hb, hml, hown, hts⟩ := fx
  obtain ⟨⟨hK, hN⟩, hP, hD, hS⟩ := X
  refine va_put hx hb hts hin ty0 hty hnm hown hK hP hD hS k (by rw [sy_wl_at hk, he]) hc j hj (hts _ hl) hsame hfin hd hn hfit hlen hdg (fun H1 locs1 hP1 hD1 hS1' => ?_)
  rw [hset, sy_wl_set] at hP1 hD1
  subst hS1
  exact kk H1 locs1 ⟨⟨hK, hN⟩, hP1, hD1, hS1'⟩
theorem sy_iald (fx : CallFix p m c cc nL s args sy_W own) (X : sy_Wd E A s S H locs) {a n : Nat} (ha : sy_isI E a n) {i : Int32} (hin : sy_in i n) (hdg : decode cc pc = .ok (.iaload, 1))
    (kk : W p l e R s m args below meth c H locs cells slots Q (F0 m (pc + 1) ls (.int (S a i.toNatClampNeg) :: rest))) : W p l e R s m args below meth c H locs cells slots Q (F0 m pc ls (.int i :: .ref (sy_ad E a) :: rest)) := by
  obtain ⟨hx, hb, hml, hown, hts⟩ := fx
  obtain ⟨⟨hK, hN⟩, hP, hD, hS⟩ := X
  obtain ⟨h1, h2, h3⟩ := ha
  exact va_iald hx hb hK hP a 0 (by rw [sy_wl_at h1, sy_en12 h2]) rfl (by rw [h3]; exact hin) hdg kk
theorem sy_iast (fx : CallFix p m c cc nL s args sy_W own) (X : sy_Wd E A s S H locs) {a n : Nat} (ha : sy_isI E a n) {i v : Int32} (hin : sy_in i n) {S1 : sy_St} (hS1 : S1 = sy_up S a i.toNatClampNeg v) (hdg : decode cc pc = .ok (.iastore, 1))
    (kk : ∀ (H1 : Heap) (locs1 : List Loc), sy_Wd E A s S1 H1 locs1 → W p l e R s m args below meth c H1 locs1 cells slots Q (F0 m (pc + 1) ls rest)) : W p l e R s m args below meth c H locs cells slots Q (F0 m pc ls (.int v :: .int i :: .ref (sy_ad E a) :: rest)) := by
  obtain ⟨hx, hb, hml, hown, hts⟩ := fx
  obtain ⟨⟨hK, hN⟩, hP, hD, hS⟩ := X
  obtain ⟨h1, h2, h3⟩ := ha
  refine va_iast hx hb hK hP hD hS a 0 (by rw [sy_wl_at h1, sy_en12 h2]) rfl (by rw [h3]; exact hin) hdg (fun H1 locs1 hP1 hD1 hS1' => ?_)
  rw [← sy_en12 h2, sy_wl_set] at hP1 hD1
  subst hS1
  exact kk H1 locs1 ⟨⟨hK, hN⟩, hP1, hD1, hS1'⟩
theorem sy_zald (fx : CallFix p m c cc nL s args sy_W own) (X : sy_Wd E A s S H locs) {a n : Nat} (ha : sy_isZ E a n) {i : Int32} (hin : sy_in i n) (hdg : decode cc pc = .ok (.baload, 1))
    (kk : W p l e R s m args below meth c H locs cells slots Q (F0 m (pc + 1) ls (.int (S a i.toNatClampNeg) :: rest))) : W p l e R s m args below meth c H locs cells slots Q (F0 m pc ls (.int i :: .ref (sy_ad E a) :: rest)) := by
  obtain ⟨hx, hb, hml, hown, hts⟩ := fx
  obtain ⟨⟨hK, hN⟩, hP, hD, hS⟩ := X
  obtain ⟨h1, h2, h3⟩ := ha
  exact va_zald hx hb hK hP a 1 (by rw [sy_wl_at h1, sy_en13 h2]) rfl (by rw [h3]; exact hin) hdg kk
theorem sy_zast (fx : CallFix p m c cc nL s args sy_W own) (X : sy_Wd E A s S H locs) {a n : Nat} (ha : sy_isZ E a n) {i v : Int32} (hin : sy_in i n) {S1 : sy_St} (hS1 : S1 = sy_up S a i.toNatClampNeg (vp_nar .boolean v)) (hdg : decode cc pc = .ok (.bastore, 1))
    (kk : ∀ (H1 : Heap) (locs1 : List Loc), sy_Wd E A s S1 H1 locs1 → W p l e R s m args below meth c H1 locs1 cells slots Q (F0 m (pc + 1) ls rest)) : W p l e R s m args below meth c H locs cells slots Q (F0 m pc ls (.int v :: .int i :: .ref (sy_ad E a) :: rest)) := by
  obtain ⟨hx, hb, hml, hown, hts⟩ := fx
  obtain ⟨⟨hK, hN⟩, hP, hD, hS⟩ := X
  obtain ⟨h1, h2, h3⟩ := ha
  refine va_zast hx hb hK hP hD hS a 1 (by rw [sy_wl_at h1, sy_en13 h2]) rfl (by rw [h3]; exact hin) hdg (fun H1 locs1 hP1 hD1 hS1' => ?_)
  rw [← sy_en13 h2, sy_wl_set] at hP1 hD1
  subst hS1
  exact kk H1 locs1 ⟨⟨hK, hN⟩, hP1, hD1, hS1'⟩
theorem sy_aald (fx : CallFix p m c cc nL s args sy_W own) (X : sy_Wd E A s S H locs) {a n b : Nat} (ha : sy_isY E a n) {i : Int32} (hin : sy_in i n) (hr : sy_r E a i.toNatClampNeg = some b) (hdg : decode cc pc = .ok (.aaload, 1))
    (kk : W p l e R s m args below meth c H locs cells slots Q (F0 m (pc + 1) ls (.ref (sy_ad E b) :: rest))) : W p l e R s m args below meth c H locs cells slots Q (F0 m pc ls (.int i :: .ref (sy_ad E a) :: rest)) := by
  obtain ⟨hx, hb, hml, hown, hts⟩ := fx
  obtain ⟨⟨hK, hN⟩, hP, hD, hS⟩ := X
  obtain ⟨h1, h2, h3⟩ := ha
  refine va_aldq hx hb hK hP a 2 (by rw [sy_wl_at h1, sy_en14 h2]) rfl (by rw [h3]; exact hin) hdg ?_
  rw [hr]
  exact kk
theorem sy_nar {f : Nat → Int32} {i : Nat} : fits .int (.int (f i)) = true := rfl
theorem sy_cpy (fx : CallFix p m c cc nL s args sy_W own) (X : sy_Wd E A s S H locs) (hsz : ls.size = nL) {a b n0 n1 : Nat} (ha : sy_isI E a n0) (hb1 : sy_isI E b n1) {index : Nat} {sp dp n : Int32} (hlink : Cond.methodLink own index arraycopyName ∈ sy_W) (hnat : Cond.native arraycopyName ∈ sy_W) (hstat : Cond.static arraycopyName ∈ sy_W) (hini : Cond.initialized "java/lang/System" ∈ sy_W)
    (h1 : ¬ sp < 0) (h2 : ¬ dp < 0) (h3 : ¬ n < 0) (h4 : sp.toNatClampNeg + n.toNatClampNeg ≤ n0) (h5 : dp.toNatClampNeg + n.toNatClampNeg ≤ n1) (hframes : 1 ≤ R.frames) (hlocals : (rest.map fun v => v.category).sum + (nativeFrameWords "java/lang/System" "arraycopy" 5 + 11) ≤ R.locals)
    {S1 : sy_St} (hS1 : S1 = sy_upA S b (va_cpy (S a) (S b) sp.toNatClampNeg dp.toNatClampNeg n.toNatClampNeg)) (hdg : decode cc pc = .ok (.invokestatic index, 3))
    (kk : ∀ (H1 : Heap) (locs1 : List Loc), sy_Wd E A s S1 H1 locs1 → W p l e R s m args below meth c H1 locs1 cells slots Q (F0 m (pc + 3) ls rest)) : W p l e R s m args below meth c H locs cells slots Q (F0 m pc ls (.int n :: .int dp :: .ref (sy_ad E b) :: .int sp :: .ref (sy_ad E a) :: rest)) := by
  obtain ⟨hx, hb, hml, hown, hts⟩ := fx
  obtain ⟨⟨hK, hN⟩, hP, hD, hS⟩ := X
  obtain ⟨a1, a2, a3⟩ := ha
  obtain ⟨b1, b2, b3⟩ := hb1
  refine va_copyi (ty := .int) hx hb (hml.trans hsz.symm) hown (hts _ hlink) (hts _ hnat) (hts _ hstat) (hts _ hini) hK hP hD hS a b 0 0 (by rw [sy_wl_at a1, sy_en12 a2]) (by rw [sy_wl_at b1, sy_en12 b2]) rfl rfl rfl h1 h2 h3 (by rw [a3]; exact h4) (by rw [b3]; exact h5) (fun i _ => sy_nar) hframes hlocals hdg (fun H1 locs1 hP1 hD1 hS1' => ?_)
  rw [← sy_en12 b2, sy_wl_set] at hP1 hD1
  subst hS1
  exact kk H1 locs1 ⟨⟨hK, hN⟩, hP1, hD1, hS1'⟩
theorem sy_blind {av : List Value} {sz : Nat} : FrameBlind (va_Pc av (sy_pre E sz S)) := fun a U g mk q => by
  obtain ⟨q0, q1, qP, qK, qD, qN⟩ := q
  exact ⟨q0, q1, qP, va_K.moved (u := U) (U := U.calling g mk a) (Vm.Alike.refl U.vm) qK, qD, sy_Nw.same (u := U) (U := U.calling g mk a) rfl qN⟩
theorem sy_freeA (hA : ∀ q, s.heap.size ≤ q → A q) (X : sy_Wd E A s S H locs) : ∀ q, va_A (sy_wl E S) H.size q → A q := fun q h => by
  obtain ⟨⟨hK, hN⟩, hP, hD, hS⟩ := X
  rcases h with ⟨k, e, h⟩ | h
  · exact hD.2 k (q, e) h
  · exact hA q (Nat.le_trans hS.1 h)
theorem sy_preU (X : sy_Wd E A s S H locs) {U : State} (hU : U.heap = H) (hW : s.WarmedH U.vm) : sy_pre E H.size S U := by
  obtain ⟨⟨hK, hN⟩, hP, hD, hS⟩ := X
  exact ⟨by rw [hU], by rw [hU]; exact hP, va_K.moved hW.alike hK, hD.weaken (fun _ _ _ _ => trivial), hN.warm hW⟩
theorem sy_recv (X : sy_Wd E A s S H locs) {k ci : Nat} {q : vw_C} (hk : sy_isO E ci k) {fs : List Value} (he : sy_en E k (S k) = .inr (ci, fs)) (hc : vwCl[ci]? = some q) : ∃ cell : Cell, H[sy_ad E k]? = some cell ∧ cell.vm.isStatics = false ∧ s.vm.findClass q.1 = some cell.cls := by
  obtain ⟨⟨hK, hN⟩, hP, hD, hS⟩ := X
  exact va_recv hK hP (ci := ci) (q0 := k) hc (by rw [sy_wl_at hk.1, he])
theorem sy_mem_good {w : Cond} (h : w ∈ sy_W) : (w.onTables && w.keeps) = true ∨ ∃ ty, w = .arrayClass ty := good_of_word (sy_W_good w h)
theorem sy_goodV {index : Nat} {C : String} {y : MethodName} {b : ByteArray} {n : Nat} {ret : Option FieldType} (m1 : Cond.methodLink own index y ∈ sy_W) (m2 : Cond.instanceMethod y ∈ sy_W) (m3 : Cond.selects C y y ∈ sy_W) (m4 : Cond.initialized C ∈ sy_W) (m5 : Cond.code y b n ret ∈ sy_W) : GoodIn sy_W (wsV own index C y (sy_ws y b n ret)) := by
  intro w hw
  have h : w ∈ sy_W := by
    unfold wsV at hw
    rcases List.mem_append.mp hw with h | h
    · simp only [List.mem_cons, List.not_mem_nil, or_false] at h
      rcases h with rfl | rfl | rfl | rfl
      · exact m1
      · exact m2
      · exact m3
      · exact m4
    · rcases List.mem_cons.mp h with rfl | h
      · exact m5
      · exact h
  exact ⟨h, sy_mem_good h⟩
theorem sy_goodS {index : Nat} {y : MethodName} {b : ByteArray} {n : Nat} {ret : Option FieldType} (m1 : Cond.methodLink own index y ∈ sy_W) (m2 : Cond.static y ∈ sy_W) (m4 : Cond.initialized own ∈ sy_W) (m5 : Cond.code y b n ret ∈ sy_W) : GoodIn sy_W (wsS own index y (sy_ws y b n ret)) := by
  intro w hw
  have h : w ∈ sy_W := by
    unfold wsS at hw
    rcases List.mem_append.mp hw with h | h
    · simp only [List.mem_cons, List.not_mem_nil, or_false] at h
      rcases h with rfl | rfl | rfl
      · exact m1
      · exact m2
      · exact m4
    · rcases List.mem_cons.mp h with rfl | h
      · exact m5
      · exact h
  exact ⟨h, sy_mem_good h⟩
/-- what a method brings to be called on an object, or as a static one -/
def sy_cV (C : String) (y : MethodName) (b : ByteArray) (n : Nat) (ret : Option FieldType) (nA : Nat) : Prop := Cond.instanceMethod y ∈ sy_W ∧ Cond.selects C y y ∈ sy_W ∧ Cond.initialized C ∈ sy_W ∧ Cond.code y b n ret ∈ sy_W ∧ (y.cls = C ∧ y.cls ≠ "java/lang/invoke/MethodHandle" ∧ y.cls ≠ "java/lang/invoke/VarHandle" ∧ (parseMethodDescriptor y.desc).map (fun d => d.parameters.length) = some nA)
def sy_cS (own : String) (y : MethodName) (b : ByteArray) (n : Nat) (ret : Option FieldType) (nA : Nat) : Prop := Cond.static y ∈ sy_W ∧ Cond.initialized own ∈ sy_W ∧ Cond.code y b n ret ∈ sy_W ∧ (y.cls = own ∧ y.cls ≠ "java/lang/invoke/MethodHandle" ∧ y.cls ≠ "java/lang/invoke/VarHandle" ∧ (parseMethodDescriptor y.desc).map (fun d => d.parameters.length) = some nA)
theorem sy_vi (fx : CallFix p m c cc nL s args sy_W own) (hA : ∀ q, s.heap.size ≤ q → A q) (X : sy_Wd E A s S H locs) (hsz : ls.size = nL) {k ci : Nat} {C : String} {T : u_T} {N : Nat} {fs : List Value} (hk : sy_isO E ci k) (he : sy_en E k (S k) = .inr (ci, fs)) (hc : vwCl[ci]? = some (C, T, N)) {y : MethodName} {b : ByteArray} {n : Nat} {ret : Option FieldType} {f ln : Nat} {As : List Value} {r : Int32} {S1 : sy_St} (hM : sy_MI l y b n ret f ln (.ref (sy_ad E k) :: As) E S r S1) {index nA : Nat} (hcv : sy_cV C y b n ret nA) (hlk : Cond.methodLink own index y ∈ sy_W) (hR : f + 1 ≤ R.frames ∧ 8 + (n + 11) + ln ≤ R.locals ∧ cells ≤ R.cells ∧ slots ≤ R.slots) (hn : As.length = nA) {st : List Value} (hst : st = As.reverse ++ .ref (sy_ad E k) :: rest) (hroom : (rest.map fun v => v.category).sum ≤ 8) (hdg : decode cc pc = .ok (.invokevirtual index, 3))
    (kk : ∀ (H1 : Heap) (locs1 : List Loc), sy_Wd E A s S1 H1 locs1 → W p l e R s m args below meth c H1 locs1 cells slots Q (F0 m (pc + 3) ls (.int r :: rest))) : W p l e R s m args below meth c H locs cells slots Q (F0 m pc ls st) := by
  subst hst
  have hF := sy_freeA hA X
  obtain ⟨m2, m3, m4, m5, hd⟩ := hcv
  refine va_calli (va_runV (rest := rest) fx (hM H.size) (cwV nA fx.2.2.2.2 (sy_goodV hlk m2 m3 m4 m5) rfl rfl rfl hd ⟨hR.1, hR.2.1⟩) ⟨sy_blind, sy_recv X hk he hc, fun U hU hW => ⟨rfl, sy_preU X hU hW⟩⟩ rfl hn hsz rfl (lv_room hroom) hdg hR.2.2) X.2.2.2 (fun q _ h => hF q h) hF (fun r1 u t H1 locs1 ht hvm hw hB hz1 hk1 hS1 => ?_)
  obtain ⟨rfl, rfl⟩ := hw
  obtain ⟨hP1, hK1, hD1⟩ := hB
  exact kk H1 locs1 ⟨X.1, by rw [← ht]; exact hP1, hD1.weaken (fun _ _ _ h => hF _ h), hS1⟩
theorem sy_vv (fx : CallFix p m c cc nL s args sy_W own) (hA : ∀ q, s.heap.size ≤ q → A q) (X : sy_Wd E A s S H locs) (hsz : ls.size = nL) {k ci : Nat} {C : String} {T : u_T} {N : Nat} {fs : List Value} (hk : sy_isO E ci k) (he : sy_en E k (S k) = .inr (ci, fs)) (hc : vwCl[ci]? = some (C, T, N)) {y : MethodName} {b : ByteArray} {n : Nat} {f ln : Nat} {As : List Value} {S1 : sy_St} (hM : sy_MV l y b n f ln (.ref (sy_ad E k) :: As) E S S1) {index nA : Nat} (hcv : sy_cV C y b n none nA) (hlk : Cond.methodLink own index y ∈ sy_W) (hR : f + 1 ≤ R.frames ∧ 8 + (n + 11) + ln ≤ R.locals ∧ cells ≤ R.cells ∧ slots ≤ R.slots) (hn : As.length = nA) {st : List Value} (hst : st = As.reverse ++ .ref (sy_ad E k) :: rest) (hroom : (rest.map fun v => v.category).sum ≤ 8) (hdg : decode cc pc = .ok (.invokevirtual index, 3))
    (kk : ∀ (H1 : Heap) (locs1 : List Loc), sy_Wd E A s S1 H1 locs1 → W p l e R s m args below meth c H1 locs1 cells slots Q (F0 m (pc + 3) ls rest)) : W p l e R s m args below meth c H locs cells slots Q (F0 m pc ls st) := by
  subst hst
  have hF := sy_freeA hA X
  obtain ⟨m2, m3, m4, m5, hd⟩ := hcv
  refine va_callv (va_runV (rest := rest) fx (hM H.size) (cwV nA fx.2.2.2.2 (sy_goodV hlk m2 m3 m4 m5) rfl rfl rfl hd ⟨hR.1, hR.2.1⟩) ⟨sy_blind, sy_recv X hk he hc, fun U hU hW => ⟨rfl, sy_preU X hU hW⟩⟩ rfl hn hsz rfl (lv_room hroom) hdg hR.2.2) X.2.2.2 (fun q _ h => hF q h) hF (fun u t H1 locs1 ht hvm hw hB hz1 hk1 hS1 => ?_)
  subst hw
  obtain ⟨hP1, hK1, hD1⟩ := hB
  exact kk H1 locs1 ⟨X.1, by rw [← ht]; exact hP1, hD1.weaken (fun _ _ _ h => hF _ h), hS1⟩
theorem sy_si (fx : CallFix p m c cc nL s args sy_W own) (hA : ∀ q, s.heap.size ≤ q → A q) (X : sy_Wd E A s S H locs) (hsz : ls.size = nL) {y : MethodName} {b : ByteArray} {n : Nat} {ret : Option FieldType} {f ln : Nat} {As : List Value} {r : Int32} {S1 : sy_St} (hM : sy_MI l y b n ret f ln As E S r S1) {index nA : Nat} (hcv : sy_cS own y b n ret nA) (hlk : Cond.methodLink own index y ∈ sy_W) (hR : f + 1 ≤ R.frames ∧ 8 + (n + 11) + ln ≤ R.locals ∧ cells ≤ R.cells ∧ slots ≤ R.slots) (hn : As.length = nA) {st : List Value} (hst : st = As.reverse ++ rest) (hroom : (rest.map fun v => v.category).sum ≤ 8) (hdg : decode cc pc = .ok (.invokestatic index, 3))
    (kk : ∀ (H1 : Heap) (locs1 : List Loc), sy_Wd E A s S1 H1 locs1 → W p l e R s m args below meth c H1 locs1 cells slots Q (F0 m (pc + 3) ls (.int r :: rest))) : W p l e R s m args below meth c H locs cells slots Q (F0 m pc ls st) := by
  subst hst
  have hF := sy_freeA hA X
  obtain ⟨m2, m4, m5, hd⟩ := hcv
  refine va_calli (va_runS (rest := rest) fx (hM H.size) (cwS nA fx.2.2.2.2 (sy_goodS hlk m2 m4 m5) rfl rfl rfl hd ⟨hR.1, hR.2.1⟩) ⟨sy_blind, fun U hU hW => ⟨rfl, sy_preU X hU hW⟩⟩ rfl hn hsz rfl (lv_room hroom) hdg hR.2.2) X.2.2.2 (fun q _ h => hF q h) hF (fun r1 u t H1 locs1 ht hvm hw hB hz1 hk1 hS1 => ?_)
  obtain ⟨rfl, rfl⟩ := hw
  obtain ⟨hP1, hK1, hD1⟩ := hB
  exact kk H1 locs1 ⟨X.1, by rw [← ht]; exact hP1, hD1.weaken (fun _ _ _ h => hF _ h), hS1⟩
theorem sy_sv (fx : CallFix p m c cc nL s args sy_W own) (hA : ∀ q, s.heap.size ≤ q → A q) (X : sy_Wd E A s S H locs) (hsz : ls.size = nL) {y : MethodName} {b : ByteArray} {n : Nat} {f ln : Nat} {As : List Value} {S1 : sy_St} (hM : sy_MV l y b n f ln As E S S1) {index nA : Nat} (hcv : sy_cS own y b n none nA) (hlk : Cond.methodLink own index y ∈ sy_W) (hR : f + 1 ≤ R.frames ∧ 8 + (n + 11) + ln ≤ R.locals ∧ cells ≤ R.cells ∧ slots ≤ R.slots) (hn : As.length = nA) {st : List Value} (hst : st = As.reverse ++ rest) (hroom : (rest.map fun v => v.category).sum ≤ 8) (hdg : decode cc pc = .ok (.invokestatic index, 3))
    (kk : ∀ (H1 : Heap) (locs1 : List Loc), sy_Wd E A s S1 H1 locs1 → W p l e R s m args below meth c H1 locs1 cells slots Q (F0 m (pc + 3) ls rest)) : W p l e R s m args below meth c H locs cells slots Q (F0 m pc ls st) := by
  subst hst
  have hF := sy_freeA hA X
  obtain ⟨m2, m4, m5, hd⟩ := hcv
  refine va_callv (va_runS (rest := rest) fx (hM H.size) (cwS nA fx.2.2.2.2 (sy_goodS hlk m2 m4 m5) rfl rfl rfl hd ⟨hR.1, hR.2.1⟩) ⟨sy_blind, fun U hU hW => ⟨rfl, sy_preU X hU hW⟩⟩ rfl hn hsz rfl (lv_room hroom) hdg hR.2.2) X.2.2.2 (fun q _ h => hF q h) hF (fun u t H1 locs1 ht hvm hw hB hz1 hk1 hS1 => ?_)
  subst hw
  obtain ⟨hP1, hK1, hD1⟩ := hB
  exact kk H1 locs1 ⟨X.1, by rw [← ht]; exact hP1, hD1.weaken (fun _ _ _ h => hF _ h), hS1⟩
/-- a static method of a nest mate -/
theorem sy_ni (fx : CallFix p m c cc nL s args sy_W own) (hA : ∀ q, s.heap.size ≤ q → A q) (X : sy_Wd E A s S H locs) (hsz : ls.size = nL) {y : MethodName} {b : ByteArray} {n : Nat} {ret : Option FieldType} {f ln : Nat} {As : List Value} {r : Int32} {S1 : sy_St} (hM : sy_MI l y b n ret f ln As E S r S1) {index nA : Nat} {own2 host : String} (hcv : sy_cS own2 y b n ret nA) (hnw : va_Nw (.methodLinkNest own index y host) s) (hR : f + 1 ≤ R.frames ∧ 8 + (n + 11) + ln ≤ R.locals ∧ cells ≤ R.cells ∧ slots ≤ R.slots) (hn : As.length = nA) {st : List Value} (hst : st = As.reverse ++ rest) (hroom : (rest.map fun v => v.category).sum ≤ 8) (hdg : decode cc pc = .ok (.invokestatic index, 3))
    (kk : ∀ (H1 : Heap) (locs1 : List Loc), sy_Wd E A s S1 H1 locs1 → W p l e R s m args below meth c H1 locs1 cells slots Q (F0 m (pc + 3) ls (.int r :: rest))) : W p l e R s m args below meth c H locs cells slots Q (F0 m pc ls st) := by
  subst hst
  have hF := sy_freeA hA X
  obtain ⟨m2, m4, m5, hd⟩ := hcv
  have hG : GoodIn sy_W (sy_ws y b n ret) := fun w hw => by
    have h : w ∈ sy_W := by
      rcases List.mem_cons.mp hw with rfl | h
      · exact m5
      · exact h
    exact ⟨h, sy_mem_good h⟩
  have hini : (Cond.initialized y.cls).before args s = true := by rw [hd.1]; exact fx.2.2.2.2 _ m4
  refine va_calli (va_runSN (rest := rest) fx (hM H.size) ⟨va_cnB nA fx.2.2.2.2 hG rfl rfl rfl hnw hini hd.2 ⟨hR.1, hR.2.1⟩, fx.2.2.2.2 _ m2, trivial⟩ ⟨sy_blind, fun U hU hW => ⟨rfl, sy_preU X hU hW⟩⟩ rfl hn hsz rfl (lv_room hroom) hdg hR.2.2) X.2.2.2 (fun q _ h => hF q h) hF (fun r1 u t H1 locs1 ht hvm hw hB hz1 hk1 hS1 => ?_)
  obtain ⟨rfl, rfl⟩ := hw
  obtain ⟨hP1, hK1, hD1⟩ := hB
  exact kk H1 locs1 ⟨X.1, by rw [← ht]; exact hP1, hD1.weaken (fun _ _ _ h => hF _ h), hS1⟩
/-- what a method of Rows, or one that stands for an abstract one of Rows, brings -/
def sy_cU (own C owner : String) (index : Nat) (x y : MethodName) (b : ByteArray) (n : Nat) (ret : Option FieldType) (nA : Nat) : Prop := Cond.methodLink own index x ∈ sy_W ∧ Cond.sameMethod x.cls owner x.name x.desc ∈ sy_W ∧ Cond.selects C x y ∈ sy_W ∧ Cond.instanceMethod y ∈ sy_W ∧ Cond.initialized y.cls ∈ sy_W ∧ Cond.code y b n ret ∈ sy_W ∧ (owner ≠ "java/lang/invoke/MethodHandle" ∧ owner ≠ "java/lang/invoke/VarHandle" ∧ (parseMethodDescriptor x.desc).map (fun d => d.parameters.length) = some nA)
theorem sy_goodU {C owner : String} {index : Nat} {x y : MethodName} {b : ByteArray} {n : Nat} {ret : Option FieldType} {nA : Nat} (h : sy_cU own C owner index x y b n ret nA) : GoodIn sy_W (va_wsU own index C owner x y (sy_ws y b n ret)) := by
  obtain ⟨m1, m2, m3, m4, m5, m6, -⟩ := h
  intro w hw
  have h : w ∈ sy_W := by
    unfold va_wsU at hw
    rcases List.mem_append.mp hw with h | h
    · simp only [List.mem_cons, List.not_mem_nil, or_false] at h
      rcases h with rfl | rfl | rfl | rfl | rfl
      · exact m1
      · exact m2
      · exact m3
      · exact m4
      · exact m5
    · rcases List.mem_cons.mp h with rfl | h
      · exact m6
      · exact h
  exact ⟨h, sy_mem_good h⟩
theorem sy_cuA {f ln nA : Nat} {C owner : String} {index : Nat} {x y : MethodName} {b : ByteArray} {n : Nat} {ret : Option FieldType} (hts : ∀ w ∈ sy_W, w.before args s = true) (h : sy_cU own C owner index x y b n ret nA) (hz : va_Nw (.declares ⟨owner, x.name, x.desc⟩) s) (hR : f + 1 ≤ R.frames ∧ 8 + (n + 11) + ln ≤ R.locals) : va_CU R s args own C owner index x y b n ret (sy_ws y b n ret) (sy_rm f ln) 0 0 nA :=
  va_cwA nA hts (sy_goodU h) rfl rfl rfl hz h.2.2.2.2.2.2 hR
theorem sy_cuU {f ln nA : Nat} {C owner : String} {index : Nat} {x y : MethodName} {b : ByteArray} {n : Nat} {ret : Option FieldType} (hts : ∀ w ∈ sy_W, w.before args s = true) (h : sy_cU own C owner index x y b n ret nA) (hyx : y = ⟨owner, x.name, x.desc⟩) (hR : f + 1 ≤ R.frames ∧ 8 + (n + 11) + ln ≤ R.locals) : va_CU R s args own C owner index x y b n ret (sy_ws y b n ret) (sy_rm f ln) 0 0 nA :=
  va_cwU nA hts (sy_goodU h) rfl rfl rfl hyx h.2.2.2.2.2.2 hR
theorem sy_ui (fx : CallFix p m c cc nL s args sy_W own) (hA : ∀ q, s.heap.size ≤ q → A q) (X : sy_Wd E A s S H locs) (hsz : ls.size = nL) {k ci : Nat} {C owner : String} {T : u_T} {N : Nat} {fs : List Value} (hk : sy_isO E ci k) (he : sy_en E k (S k) = .inr (ci, fs)) (hc : vwCl[ci]? = some (C, T, N)) {x y : MethodName} {b : ByteArray} {n : Nat} {ret : Option FieldType} {f ln : Nat} {As : List Value} {r : Int32} {S1 : sy_St} (hM : sy_MI l y b n ret f ln (.ref (sy_ad E k) :: As) E S r S1) {index nA : Nat} (cu : va_CU R s args own C owner index x y b n ret (sy_ws y b n ret) (sy_rm f ln) 0 0 nA) (hR : cells ≤ R.cells ∧ slots ≤ R.slots) (hn : As.length = nA) {st : List Value} (hst : st = As.reverse ++ .ref (sy_ad E k) :: rest) (hroom : (rest.map fun v => v.category).sum ≤ 8) (hdg : decode cc pc = .ok (.invokevirtual index, 3))
    (kk : ∀ (H1 : Heap) (locs1 : List Loc), sy_Wd E A s S1 H1 locs1 → W p l e R s m args below meth c H1 locs1 cells slots Q (F0 m (pc + 3) ls (.int r :: rest))) : W p l e R s m args below meth c H locs cells slots Q (F0 m pc ls st) := by
  subst hst
  have hF := sy_freeA hA X
  refine va_calli (va_runU (rest := rest) fx (hM H.size) cu ⟨sy_blind, sy_recv X hk he hc, fun U hU hW => ⟨rfl, sy_preU X hU hW⟩⟩ rfl hn hsz rfl (lv_room hroom) hdg hR) X.2.2.2 (fun q _ h => hF q h) hF (fun r1 u t H1 locs1 ht hvm hw hB hz1 hk1 hS1 => ?_)
  obtain ⟨rfl, rfl⟩ := hw
  obtain ⟨hP1, hK1, hD1⟩ := hB
  exact kk H1 locs1 ⟨X.1, by rw [← ht]; exact hP1, hD1.weaken (fun _ _ _ h => hF _ h), hS1⟩
theorem sy_uv (fx : CallFix p m c cc nL s args sy_W own) (hA : ∀ q, s.heap.size ≤ q → A q) (X : sy_Wd E A s S H locs) (hsz : ls.size = nL) {k ci : Nat} {C owner : String} {T : u_T} {N : Nat} {fs : List Value} (hk : sy_isO E ci k) (he : sy_en E k (S k) = .inr (ci, fs)) (hc : vwCl[ci]? = some (C, T, N)) {x y : MethodName} {b : ByteArray} {n : Nat} {f ln : Nat} {As : List Value} {S1 : sy_St} (hM : sy_MV l y b n f ln (.ref (sy_ad E k) :: As) E S S1) {index nA : Nat} (cu : va_CU R s args own C owner index x y b n none (sy_ws y b n none) (sy_rm f ln) 0 0 nA) (hR : cells ≤ R.cells ∧ slots ≤ R.slots) (hn : As.length = nA) {st : List Value} (hst : st = As.reverse ++ .ref (sy_ad E k) :: rest) (hroom : (rest.map fun v => v.category).sum ≤ 8) (hdg : decode cc pc = .ok (.invokevirtual index, 3))
    (kk : ∀ (H1 : Heap) (locs1 : List Loc), sy_Wd E A s S1 H1 locs1 → W p l e R s m args below meth c H1 locs1 cells slots Q (F0 m (pc + 3) ls rest)) : W p l e R s m args below meth c H locs cells slots Q (F0 m pc ls st) := by
  subst hst
  have hF := sy_freeA hA X
  refine va_callv (va_runU (rest := rest) fx (hM H.size) cu ⟨sy_blind, sy_recv X hk he hc, fun U hU hW => ⟨rfl, sy_preU X hU hW⟩⟩ rfl hn hsz rfl (lv_room hroom) hdg hR) X.2.2.2 (fun q _ h => hF q h) hF (fun u t H1 locs1 ht hvm hw hB hz1 hk1 hS1 => ?_)
  subst hw
  obtain ⟨hP1, hK1, hD1⟩ := hB
  exact kk H1 locs1 ⟨X.1, by rw [← ht]; exact hP1, hD1.weaken (fun _ _ _ h => hF _ h), hS1⟩
/-- ends -/
theorem sy_iret (fx : CallFix p m c cc nL s args sy_W own) (X : sy_Wd E A s S H locs) (hr : meth.sig.returnType = some .int) (hlocks : meth.locks = false) {r v : Int32} {S' : sy_St} (h : (some (v, S) : sy_R) = some (r, S')) (hdg : decode cc pc = .ok (.ireturn, 1)) : W p l e R s m args below meth c H locs 0 0 (MQ below (sy_Qi E A r S') args s 0 0 A) (F0 m pc ls [.int v]) := by
  obtain ⟨rfl, rfl⟩ := sy_r_e h
  obtain ⟨⟨hK, hN⟩, hP, hD, hS⟩ := X
  exact W.iret (v := v) fx.1 fx.2.1 hr (fun t ht hW => ⟨⟨v, S, rfl, ⟨rfl, rfl⟩, by rw [ht]; exact hP, va_K.moved hW.alike hK, hD⟩, hS.F ht⟩) hS.2.2 hdg hlocks
theorem sy_nb {v : Int32} (h : v = 0 ∨ v = 1) : narrow .boolean (.int v) = .int v := by rcases h with rfl | rfl <;> rfl
theorem sy_zret (fx : CallFix p m c cc nL s args sy_W own) (X : sy_Wd E A s S H locs) (hr : meth.sig.returnType = some .boolean) (hlocks : meth.locks = false) {r v : Int32} (hv : v = 0 ∨ v = 1) {S' : sy_St} (h : (some (v, S) : sy_R) = some (r, S')) (hdg : decode cc pc = .ok (.ireturn, 1)) : W p l e R s m args below meth c H locs 0 0 (MQ below (sy_Qi E A r S') args s 0 0 A) (F0 m pc ls [.int v]) := by
  obtain ⟨rfl, rfl⟩ := sy_r_e h
  obtain ⟨⟨hK, hN⟩, hP, hD, hS⟩ := X
  exact W.zret (v := v) fx.1 fx.2.1 hr (sy_nb hv) (fun t ht hW => ⟨⟨v, S, rfl, ⟨rfl, rfl⟩, by rw [ht]; exact hP, va_K.moved hW.alike hK, hD⟩, hS.F ht⟩) hS.2.2 hdg hlocks
theorem sy_vret (fx : CallFix p m c cc nL s args sy_W own) (X : sy_Wd E A s S H locs) (hr : meth.sig.returnType = none) (hlocks : meth.locks = false) {v r : Int32} {S' : sy_St} (h : (some (v, S) : sy_R) = some (r, S')) (hdg : decode cc pc = .ok (.return_, 1)) : W p l e R s m args below meth c H locs 0 0 (MQ below (sy_Qv E A S') args s 0 0 A) (F0 m pc ls []) := by
  obtain ⟨rfl, rfl⟩ := sy_r_e h
  obtain ⟨⟨hK, hN⟩, hP, hD, hS⟩ := X
  exact W.vret fx.1 fx.2.1 hr (fun t ht hW => ⟨⟨S, rfl, rfl, by rw [ht]; exact hP, va_K.moved hW.alike hK, hD⟩, hS.F ht⟩) hS.2.2 hdg hlocks

theorem sy_g0 (fx : CallFix p m c cc nL s args sy_W own) (X : sy_Wd E A s S H locs) {k : Nat} (hk : sy_isO E 0 k) (j : Nat) (hj : j < 4) {index : Nat} {ref : String} (hl : Cond.fieldLink own index ref (TX0 j).2.1 (TX0 j).2.2.1 ∈ sy_W) (hsame : ∀ x, s.fieldFound? (TX0 j).1 (TX0 j).2.1 (TX0 j).2.2.1 = some x → s.fieldFound? ref (TX0 j).2.1 (TX0 j).2.2.1 = some x) {v : Int32} (hv : (sy_f0 E k (S k))[j]? = some (.int v)) (hdg : decode cc pc = .ok (.getfield index, 3)) (kk : W p l e R s m args below meth c H locs cells slots Q (F0 m (pc + 3) ls (.int v :: rest))) : W p l e R s m args below meth c H locs cells slots Q (F0 m pc ls (.ref (sy_ad E k) :: rest)) := sy_get fx X hk.1 (sy_en0 hk.2) rfl inW0 j hj hl hsame hv hdg kk
theorem sy_q0 (fx : CallFix p m c cc nL s args sy_W own) (X : sy_Wd E A s S H locs) {k : Nat} (hk : sy_isO E 0 k) (j : Nat) (hj : j < 4) {index : Nat} {ref : String} (hl : Cond.fieldLink own index ref (TX0 j).2.1 (TX0 j).2.2.1 ∈ sy_W) (hsame : ∀ x, s.fieldFound? (TX0 j).1 (TX0 j).2.1 (TX0 j).2.2.1 = some x → s.fieldFound? ref (TX0 j).2.1 (TX0 j).2.2.1 = some x) (hv : (sy_f0 E k (S k))[j]? = some (sy_rv E k j)) {a : Nat} (hr : sy_r E k j = some a) (hdg : decode cc pc = .ok (.getfield index, 3)) (kk : W p l e R s m args below meth c H locs cells slots Q (F0 m (pc + 3) ls (.ref (sy_ad E a) :: rest))) : W p l e R s m args below meth c H locs cells slots Q (F0 m pc ls (.ref (sy_ad E k) :: rest)) := sy_get fx X hk.1 (sy_en0 hk.2) rfl inW0 j hj hl hsame hv hdg (by unfold sy_rv; rw [hr]; exact kk)
theorem sy_p0 (fx : CallFix p m c cc nL s args sy_W own) (X : sy_Wd E A s S H locs) {k : Nat} (hk : sy_isO E 0 k) (j : Nat) (hj : j < 4) {index : Nat} {ref : String} (hl : Cond.fieldLink own index ref (TX0 j).2.1 (TX0 j).2.2.1 ∈ sy_W) (hsame : ∀ x, s.fieldFound? (TX0 j).1 (TX0 j).2.1 (TX0 j).2.2.1 = some x → s.fieldFound? ref (TX0 j).2.1 (TX0 j).2.2.1 = some x) (hfin : (TX0 j).2.2.2 = false) {ty : FieldType} {v : Int32} (hd : parseFieldDescriptor (TX0 j).2.2.1 = some ty) (hn : narrow ty (.int v) = .int v) (hfit : fits ty (.int v) = true) {S1 : sy_St} (hS1 : S1 = sy_up S k j v) (hset : (sy_f0 E k (S k)).set j (.int v) = sy_f0 E k (upd (S k) j v)) (hdg : decode cc pc = .ok (.putfield index, 3)) (kk : ∀ (H1 : Heap) (locs1 : List Loc), sy_Wd E A s S1 H1 locs1 → W p l e R s m args below meth c H1 locs1 cells slots Q (F0 m (pc + 3) ls rest)) : W p l e R s m args below meth c H locs cells slots Q (F0 m pc ls (.int v :: .ref (sy_ad E k) :: rest)) := sy_put fx X hk.1 (sy_en0 hk.2) rfl inW0 tyX0 tyX0_ok nmX0 j hj hl hsame hfin hd hn hfit hj hS1 (by rw [hset, sy_en0 hk.2]) hdg kk
theorem sy_g1 (fx : CallFix p m c cc nL s args sy_W own) (X : sy_Wd E A s S H locs) {k : Nat} (hk : sy_isO E 1 k) (j : Nat) (hj : j < 6) {index : Nat} {ref : String} (hl : Cond.fieldLink own index ref (TX1 j).2.1 (TX1 j).2.2.1 ∈ sy_W) (hsame : ∀ x, s.fieldFound? (TX1 j).1 (TX1 j).2.1 (TX1 j).2.2.1 = some x → s.fieldFound? ref (TX1 j).2.1 (TX1 j).2.2.1 = some x) {v : Int32} (hv : (sy_f1 E k (S k))[j]? = some (.int v)) (hdg : decode cc pc = .ok (.getfield index, 3)) (kk : W p l e R s m args below meth c H locs cells slots Q (F0 m (pc + 3) ls (.int v :: rest))) : W p l e R s m args below meth c H locs cells slots Q (F0 m pc ls (.ref (sy_ad E k) :: rest)) := sy_get fx X hk.1 (sy_en1 hk.2) rfl inW1 j hj hl hsame hv hdg kk
theorem sy_q1 (fx : CallFix p m c cc nL s args sy_W own) (X : sy_Wd E A s S H locs) {k : Nat} (hk : sy_isO E 1 k) (j : Nat) (hj : j < 6) {index : Nat} {ref : String} (hl : Cond.fieldLink own index ref (TX1 j).2.1 (TX1 j).2.2.1 ∈ sy_W) (hsame : ∀ x, s.fieldFound? (TX1 j).1 (TX1 j).2.1 (TX1 j).2.2.1 = some x → s.fieldFound? ref (TX1 j).2.1 (TX1 j).2.2.1 = some x) (hv : (sy_f1 E k (S k))[j]? = some (sy_rv E k j)) {a : Nat} (hr : sy_r E k j = some a) (hdg : decode cc pc = .ok (.getfield index, 3)) (kk : W p l e R s m args below meth c H locs cells slots Q (F0 m (pc + 3) ls (.ref (sy_ad E a) :: rest))) : W p l e R s m args below meth c H locs cells slots Q (F0 m pc ls (.ref (sy_ad E k) :: rest)) := sy_get fx X hk.1 (sy_en1 hk.2) rfl inW1 j hj hl hsame hv hdg (by unfold sy_rv; rw [hr]; exact kk)
theorem sy_p1 (fx : CallFix p m c cc nL s args sy_W own) (X : sy_Wd E A s S H locs) {k : Nat} (hk : sy_isO E 1 k) (j : Nat) (hj : j < 6) {index : Nat} {ref : String} (hl : Cond.fieldLink own index ref (TX1 j).2.1 (TX1 j).2.2.1 ∈ sy_W) (hsame : ∀ x, s.fieldFound? (TX1 j).1 (TX1 j).2.1 (TX1 j).2.2.1 = some x → s.fieldFound? ref (TX1 j).2.1 (TX1 j).2.2.1 = some x) (hfin : (TX1 j).2.2.2 = false) {ty : FieldType} {v : Int32} (hd : parseFieldDescriptor (TX1 j).2.2.1 = some ty) (hn : narrow ty (.int v) = .int v) (hfit : fits ty (.int v) = true) {S1 : sy_St} (hS1 : S1 = sy_up S k j v) (hset : (sy_f1 E k (S k)).set j (.int v) = sy_f1 E k (upd (S k) j v)) (hdg : decode cc pc = .ok (.putfield index, 3)) (kk : ∀ (H1 : Heap) (locs1 : List Loc), sy_Wd E A s S1 H1 locs1 → W p l e R s m args below meth c H1 locs1 cells slots Q (F0 m (pc + 3) ls rest)) : W p l e R s m args below meth c H locs cells slots Q (F0 m pc ls (.int v :: .ref (sy_ad E k) :: rest)) := sy_put fx X hk.1 (sy_en1 hk.2) rfl inW1 tyX1 tyX1_ok nmX1 j hj hl hsame hfin hd hn hfit hj hS1 (by rw [hset, sy_en1 hk.2]) hdg kk
theorem sy_g2 (fx : CallFix p m c cc nL s args sy_W own) (X : sy_Wd E A s S H locs) {k : Nat} (hk : sy_isO E 2 k) (j : Nat) (hj : j < 3) {index : Nat} {ref : String} (hl : Cond.fieldLink own index ref (TX2 j).2.1 (TX2 j).2.2.1 ∈ sy_W) (hsame : ∀ x, s.fieldFound? (TX2 j).1 (TX2 j).2.1 (TX2 j).2.2.1 = some x → s.fieldFound? ref (TX2 j).2.1 (TX2 j).2.2.1 = some x) {v : Int32} (hv : (sy_f2 E k (S k))[j]? = some (.int v)) (hdg : decode cc pc = .ok (.getfield index, 3)) (kk : W p l e R s m args below meth c H locs cells slots Q (F0 m (pc + 3) ls (.int v :: rest))) : W p l e R s m args below meth c H locs cells slots Q (F0 m pc ls (.ref (sy_ad E k) :: rest)) := sy_get fx X hk.1 (sy_en2 hk.2) rfl inW2 j hj hl hsame hv hdg kk
theorem sy_q2 (fx : CallFix p m c cc nL s args sy_W own) (X : sy_Wd E A s S H locs) {k : Nat} (hk : sy_isO E 2 k) (j : Nat) (hj : j < 3) {index : Nat} {ref : String} (hl : Cond.fieldLink own index ref (TX2 j).2.1 (TX2 j).2.2.1 ∈ sy_W) (hsame : ∀ x, s.fieldFound? (TX2 j).1 (TX2 j).2.1 (TX2 j).2.2.1 = some x → s.fieldFound? ref (TX2 j).2.1 (TX2 j).2.2.1 = some x) (hv : (sy_f2 E k (S k))[j]? = some (sy_rv E k j)) {a : Nat} (hr : sy_r E k j = some a) (hdg : decode cc pc = .ok (.getfield index, 3)) (kk : W p l e R s m args below meth c H locs cells slots Q (F0 m (pc + 3) ls (.ref (sy_ad E a) :: rest))) : W p l e R s m args below meth c H locs cells slots Q (F0 m pc ls (.ref (sy_ad E k) :: rest)) := sy_get fx X hk.1 (sy_en2 hk.2) rfl inW2 j hj hl hsame hv hdg (by unfold sy_rv; rw [hr]; exact kk)
theorem sy_p2 (fx : CallFix p m c cc nL s args sy_W own) (X : sy_Wd E A s S H locs) {k : Nat} (hk : sy_isO E 2 k) (j : Nat) (hj : j < 3) {index : Nat} {ref : String} (hl : Cond.fieldLink own index ref (TX2 j).2.1 (TX2 j).2.2.1 ∈ sy_W) (hsame : ∀ x, s.fieldFound? (TX2 j).1 (TX2 j).2.1 (TX2 j).2.2.1 = some x → s.fieldFound? ref (TX2 j).2.1 (TX2 j).2.2.1 = some x) (hfin : (TX2 j).2.2.2 = false) {ty : FieldType} {v : Int32} (hd : parseFieldDescriptor (TX2 j).2.2.1 = some ty) (hn : narrow ty (.int v) = .int v) (hfit : fits ty (.int v) = true) {S1 : sy_St} (hS1 : S1 = sy_up S k j v) (hset : (sy_f2 E k (S k)).set j (.int v) = sy_f2 E k (upd (S k) j v)) (hdg : decode cc pc = .ok (.putfield index, 3)) (kk : ∀ (H1 : Heap) (locs1 : List Loc), sy_Wd E A s S1 H1 locs1 → W p l e R s m args below meth c H1 locs1 cells slots Q (F0 m (pc + 3) ls rest)) : W p l e R s m args below meth c H locs cells slots Q (F0 m pc ls (.int v :: .ref (sy_ad E k) :: rest)) := sy_put fx X hk.1 (sy_en2 hk.2) rfl inW2 tyX2 tyX2_ok nmX2 j hj hl hsame hfin hd hn hfit hj hS1 (by rw [hset, sy_en2 hk.2]) hdg kk
theorem sy_g3 (fx : CallFix p m c cc nL s args sy_W own) (X : sy_Wd E A s S H locs) {k : Nat} (hk : sy_isO E 3 k) (j : Nat) (hj : j < 10) {index : Nat} {ref : String} (hl : Cond.fieldLink own index ref (TX3 j).2.1 (TX3 j).2.2.1 ∈ sy_W) (hsame : ∀ x, s.fieldFound? (TX3 j).1 (TX3 j).2.1 (TX3 j).2.2.1 = some x → s.fieldFound? ref (TX3 j).2.1 (TX3 j).2.2.1 = some x) {v : Int32} (hv : (sy_f3 E k (S k))[j]? = some (.int v)) (hdg : decode cc pc = .ok (.getfield index, 3)) (kk : W p l e R s m args below meth c H locs cells slots Q (F0 m (pc + 3) ls (.int v :: rest))) : W p l e R s m args below meth c H locs cells slots Q (F0 m pc ls (.ref (sy_ad E k) :: rest)) := sy_get fx X hk.1 (sy_en3 hk.2) rfl inW3 j hj hl hsame hv hdg kk
theorem sy_q3 (fx : CallFix p m c cc nL s args sy_W own) (X : sy_Wd E A s S H locs) {k : Nat} (hk : sy_isO E 3 k) (j : Nat) (hj : j < 10) {index : Nat} {ref : String} (hl : Cond.fieldLink own index ref (TX3 j).2.1 (TX3 j).2.2.1 ∈ sy_W) (hsame : ∀ x, s.fieldFound? (TX3 j).1 (TX3 j).2.1 (TX3 j).2.2.1 = some x → s.fieldFound? ref (TX3 j).2.1 (TX3 j).2.2.1 = some x) (hv : (sy_f3 E k (S k))[j]? = some (sy_rv E k j)) {a : Nat} (hr : sy_r E k j = some a) (hdg : decode cc pc = .ok (.getfield index, 3)) (kk : W p l e R s m args below meth c H locs cells slots Q (F0 m (pc + 3) ls (.ref (sy_ad E a) :: rest))) : W p l e R s m args below meth c H locs cells slots Q (F0 m pc ls (.ref (sy_ad E k) :: rest)) := sy_get fx X hk.1 (sy_en3 hk.2) rfl inW3 j hj hl hsame hv hdg (by unfold sy_rv; rw [hr]; exact kk)
theorem sy_p3 (fx : CallFix p m c cc nL s args sy_W own) (X : sy_Wd E A s S H locs) {k : Nat} (hk : sy_isO E 3 k) (j : Nat) (hj : j < 10) {index : Nat} {ref : String} (hl : Cond.fieldLink own index ref (TX3 j).2.1 (TX3 j).2.2.1 ∈ sy_W) (hsame : ∀ x, s.fieldFound? (TX3 j).1 (TX3 j).2.1 (TX3 j).2.2.1 = some x → s.fieldFound? ref (TX3 j).2.1 (TX3 j).2.2.1 = some x) (hfin : (TX3 j).2.2.2 = false) {ty : FieldType} {v : Int32} (hd : parseFieldDescriptor (TX3 j).2.2.1 = some ty) (hn : narrow ty (.int v) = .int v) (hfit : fits ty (.int v) = true) {S1 : sy_St} (hS1 : S1 = sy_up S k j v) (hset : (sy_f3 E k (S k)).set j (.int v) = sy_f3 E k (upd (S k) j v)) (hdg : decode cc pc = .ok (.putfield index, 3)) (kk : ∀ (H1 : Heap) (locs1 : List Loc), sy_Wd E A s S1 H1 locs1 → W p l e R s m args below meth c H1 locs1 cells slots Q (F0 m (pc + 3) ls rest)) : W p l e R s m args below meth c H locs cells slots Q (F0 m pc ls (.int v :: .ref (sy_ad E k) :: rest)) := sy_put fx X hk.1 (sy_en3 hk.2) rfl inW3 tyX3 tyX3_ok nmX3 j hj hl hsame hfin hd hn hfit hj hS1 (by rw [hset, sy_en3 hk.2]) hdg kk
theorem sy_g4 (fx : CallFix p m c cc nL s args sy_W own) (X : sy_Wd E A s S H locs) {k : Nat} (hk : sy_isO E 4 k) (j : Nat) (hj : j < 8) {index : Nat} {ref : String} (hl : Cond.fieldLink own index ref (TX4 j).2.1 (TX4 j).2.2.1 ∈ sy_W) (hsame : ∀ x, s.fieldFound? (TX4 j).1 (TX4 j).2.1 (TX4 j).2.2.1 = some x → s.fieldFound? ref (TX4 j).2.1 (TX4 j).2.2.1 = some x) {v : Int32} (hv : (sy_f4 E k (S k))[j]? = some (.int v)) (hdg : decode cc pc = .ok (.getfield index, 3)) (kk : W p l e R s m args below meth c H locs cells slots Q (F0 m (pc + 3) ls (.int v :: rest))) : W p l e R s m args below meth c H locs cells slots Q (F0 m pc ls (.ref (sy_ad E k) :: rest)) := sy_get fx X hk.1 (sy_en4 hk.2) rfl inW4 j hj hl hsame hv hdg kk
theorem sy_q4 (fx : CallFix p m c cc nL s args sy_W own) (X : sy_Wd E A s S H locs) {k : Nat} (hk : sy_isO E 4 k) (j : Nat) (hj : j < 8) {index : Nat} {ref : String} (hl : Cond.fieldLink own index ref (TX4 j).2.1 (TX4 j).2.2.1 ∈ sy_W) (hsame : ∀ x, s.fieldFound? (TX4 j).1 (TX4 j).2.1 (TX4 j).2.2.1 = some x → s.fieldFound? ref (TX4 j).2.1 (TX4 j).2.2.1 = some x) (hv : (sy_f4 E k (S k))[j]? = some (sy_rv E k j)) {a : Nat} (hr : sy_r E k j = some a) (hdg : decode cc pc = .ok (.getfield index, 3)) (kk : W p l e R s m args below meth c H locs cells slots Q (F0 m (pc + 3) ls (.ref (sy_ad E a) :: rest))) : W p l e R s m args below meth c H locs cells slots Q (F0 m pc ls (.ref (sy_ad E k) :: rest)) := sy_get fx X hk.1 (sy_en4 hk.2) rfl inW4 j hj hl hsame hv hdg (by unfold sy_rv; rw [hr]; exact kk)
theorem sy_p4 (fx : CallFix p m c cc nL s args sy_W own) (X : sy_Wd E A s S H locs) {k : Nat} (hk : sy_isO E 4 k) (j : Nat) (hj : j < 8) {index : Nat} {ref : String} (hl : Cond.fieldLink own index ref (TX4 j).2.1 (TX4 j).2.2.1 ∈ sy_W) (hsame : ∀ x, s.fieldFound? (TX4 j).1 (TX4 j).2.1 (TX4 j).2.2.1 = some x → s.fieldFound? ref (TX4 j).2.1 (TX4 j).2.2.1 = some x) (hfin : (TX4 j).2.2.2 = false) {ty : FieldType} {v : Int32} (hd : parseFieldDescriptor (TX4 j).2.2.1 = some ty) (hn : narrow ty (.int v) = .int v) (hfit : fits ty (.int v) = true) {S1 : sy_St} (hS1 : S1 = sy_up S k j v) (hset : (sy_f4 E k (S k)).set j (.int v) = sy_f4 E k (upd (S k) j v)) (hdg : decode cc pc = .ok (.putfield index, 3)) (kk : ∀ (H1 : Heap) (locs1 : List Loc), sy_Wd E A s S1 H1 locs1 → W p l e R s m args below meth c H1 locs1 cells slots Q (F0 m (pc + 3) ls rest)) : W p l e R s m args below meth c H locs cells slots Q (F0 m pc ls (.int v :: .ref (sy_ad E k) :: rest)) := sy_put fx X hk.1 (sy_en4 hk.2) rfl inW4 tyX4 tyX4_ok nmX4 j hj hl hsame hfin hd hn hfit hj hS1 (by rw [hset, sy_en4 hk.2]) hdg kk
theorem sy_g5 (fx : CallFix p m c cc nL s args sy_W own) (X : sy_Wd E A s S H locs) {k : Nat} (hk : sy_isO E 5 k) (j : Nat) (hj : j < 3) {index : Nat} {ref : String} (hl : Cond.fieldLink own index ref (TX5 j).2.1 (TX5 j).2.2.1 ∈ sy_W) (hsame : ∀ x, s.fieldFound? (TX5 j).1 (TX5 j).2.1 (TX5 j).2.2.1 = some x → s.fieldFound? ref (TX5 j).2.1 (TX5 j).2.2.1 = some x) {v : Int32} (hv : (sy_f5 E k (S k))[j]? = some (.int v)) (hdg : decode cc pc = .ok (.getfield index, 3)) (kk : W p l e R s m args below meth c H locs cells slots Q (F0 m (pc + 3) ls (.int v :: rest))) : W p l e R s m args below meth c H locs cells slots Q (F0 m pc ls (.ref (sy_ad E k) :: rest)) := sy_get fx X hk.1 (sy_en5 hk.2) rfl inW5 j hj hl hsame hv hdg kk
theorem sy_q5 (fx : CallFix p m c cc nL s args sy_W own) (X : sy_Wd E A s S H locs) {k : Nat} (hk : sy_isO E 5 k) (j : Nat) (hj : j < 3) {index : Nat} {ref : String} (hl : Cond.fieldLink own index ref (TX5 j).2.1 (TX5 j).2.2.1 ∈ sy_W) (hsame : ∀ x, s.fieldFound? (TX5 j).1 (TX5 j).2.1 (TX5 j).2.2.1 = some x → s.fieldFound? ref (TX5 j).2.1 (TX5 j).2.2.1 = some x) (hv : (sy_f5 E k (S k))[j]? = some (sy_rv E k j)) {a : Nat} (hr : sy_r E k j = some a) (hdg : decode cc pc = .ok (.getfield index, 3)) (kk : W p l e R s m args below meth c H locs cells slots Q (F0 m (pc + 3) ls (.ref (sy_ad E a) :: rest))) : W p l e R s m args below meth c H locs cells slots Q (F0 m pc ls (.ref (sy_ad E k) :: rest)) := sy_get fx X hk.1 (sy_en5 hk.2) rfl inW5 j hj hl hsame hv hdg (by unfold sy_rv; rw [hr]; exact kk)
theorem sy_p5 (fx : CallFix p m c cc nL s args sy_W own) (X : sy_Wd E A s S H locs) {k : Nat} (hk : sy_isO E 5 k) (j : Nat) (hj : j < 3) {index : Nat} {ref : String} (hl : Cond.fieldLink own index ref (TX5 j).2.1 (TX5 j).2.2.1 ∈ sy_W) (hsame : ∀ x, s.fieldFound? (TX5 j).1 (TX5 j).2.1 (TX5 j).2.2.1 = some x → s.fieldFound? ref (TX5 j).2.1 (TX5 j).2.2.1 = some x) (hfin : (TX5 j).2.2.2 = false) {ty : FieldType} {v : Int32} (hd : parseFieldDescriptor (TX5 j).2.2.1 = some ty) (hn : narrow ty (.int v) = .int v) (hfit : fits ty (.int v) = true) {S1 : sy_St} (hS1 : S1 = sy_up S k j v) (hset : (sy_f5 E k (S k)).set j (.int v) = sy_f5 E k (upd (S k) j v)) (hdg : decode cc pc = .ok (.putfield index, 3)) (kk : ∀ (H1 : Heap) (locs1 : List Loc), sy_Wd E A s S1 H1 locs1 → W p l e R s m args below meth c H1 locs1 cells slots Q (F0 m (pc + 3) ls rest)) : W p l e R s m args below meth c H locs cells slots Q (F0 m pc ls (.int v :: .ref (sy_ad E k) :: rest)) := sy_put fx X hk.1 (sy_en5 hk.2) rfl inW5 tyX5 tyX5_ok nmX5 j hj hl hsame hfin hd hn hfit hj hS1 (by rw [hset, sy_en5 hk.2]) hdg kk
theorem sy_g6 (fx : CallFix p m c cc nL s args sy_W own) (X : sy_Wd E A s S H locs) {k : Nat} (hk : sy_isO E 6 k) (j : Nat) (hj : j < 9) {index : Nat} {ref : String} (hl : Cond.fieldLink own index ref (TX6 j).2.1 (TX6 j).2.2.1 ∈ sy_W) (hsame : ∀ x, s.fieldFound? (TX6 j).1 (TX6 j).2.1 (TX6 j).2.2.1 = some x → s.fieldFound? ref (TX6 j).2.1 (TX6 j).2.2.1 = some x) {v : Int32} (hv : (sy_f6 E k (S k))[j]? = some (.int v)) (hdg : decode cc pc = .ok (.getfield index, 3)) (kk : W p l e R s m args below meth c H locs cells slots Q (F0 m (pc + 3) ls (.int v :: rest))) : W p l e R s m args below meth c H locs cells slots Q (F0 m pc ls (.ref (sy_ad E k) :: rest)) := sy_get fx X hk.1 (sy_en6 hk.2) rfl inW6 j hj hl hsame hv hdg kk
theorem sy_q6 (fx : CallFix p m c cc nL s args sy_W own) (X : sy_Wd E A s S H locs) {k : Nat} (hk : sy_isO E 6 k) (j : Nat) (hj : j < 9) {index : Nat} {ref : String} (hl : Cond.fieldLink own index ref (TX6 j).2.1 (TX6 j).2.2.1 ∈ sy_W) (hsame : ∀ x, s.fieldFound? (TX6 j).1 (TX6 j).2.1 (TX6 j).2.2.1 = some x → s.fieldFound? ref (TX6 j).2.1 (TX6 j).2.2.1 = some x) (hv : (sy_f6 E k (S k))[j]? = some (sy_rv E k j)) {a : Nat} (hr : sy_r E k j = some a) (hdg : decode cc pc = .ok (.getfield index, 3)) (kk : W p l e R s m args below meth c H locs cells slots Q (F0 m (pc + 3) ls (.ref (sy_ad E a) :: rest))) : W p l e R s m args below meth c H locs cells slots Q (F0 m pc ls (.ref (sy_ad E k) :: rest)) := sy_get fx X hk.1 (sy_en6 hk.2) rfl inW6 j hj hl hsame hv hdg (by unfold sy_rv; rw [hr]; exact kk)
theorem sy_p6 (fx : CallFix p m c cc nL s args sy_W own) (X : sy_Wd E A s S H locs) {k : Nat} (hk : sy_isO E 6 k) (j : Nat) (hj : j < 9) {index : Nat} {ref : String} (hl : Cond.fieldLink own index ref (TX6 j).2.1 (TX6 j).2.2.1 ∈ sy_W) (hsame : ∀ x, s.fieldFound? (TX6 j).1 (TX6 j).2.1 (TX6 j).2.2.1 = some x → s.fieldFound? ref (TX6 j).2.1 (TX6 j).2.2.1 = some x) (hfin : (TX6 j).2.2.2 = false) {ty : FieldType} {v : Int32} (hd : parseFieldDescriptor (TX6 j).2.2.1 = some ty) (hn : narrow ty (.int v) = .int v) (hfit : fits ty (.int v) = true) {S1 : sy_St} (hS1 : S1 = sy_up S k j v) (hset : (sy_f6 E k (S k)).set j (.int v) = sy_f6 E k (upd (S k) j v)) (hdg : decode cc pc = .ok (.putfield index, 3)) (kk : ∀ (H1 : Heap) (locs1 : List Loc), sy_Wd E A s S1 H1 locs1 → W p l e R s m args below meth c H1 locs1 cells slots Q (F0 m (pc + 3) ls rest)) : W p l e R s m args below meth c H locs cells slots Q (F0 m pc ls (.int v :: .ref (sy_ad E k) :: rest)) := sy_put fx X hk.1 (sy_en6 hk.2) rfl inW6 tyX6 tyX6_ok nmX6 j hj hl hsame hfin hd hn hfit hj hS1 (by rw [hset, sy_en6 hk.2]) hdg kk
theorem sy_g7 (fx : CallFix p m c cc nL s args sy_W own) (X : sy_Wd E A s S H locs) {k : Nat} (hk : sy_isO E 7 k) (j : Nat) (hj : j < 10) {index : Nat} {ref : String} (hl : Cond.fieldLink own index ref (TX8 j).2.1 (TX8 j).2.2.1 ∈ sy_W) (hsame : ∀ x, s.fieldFound? (TX8 j).1 (TX8 j).2.1 (TX8 j).2.2.1 = some x → s.fieldFound? ref (TX8 j).2.1 (TX8 j).2.2.1 = some x) {v : Int32} (hv : (sy_f7 E k (S k))[j]? = some (.int v)) (hdg : decode cc pc = .ok (.getfield index, 3)) (kk : W p l e R s m args below meth c H locs cells slots Q (F0 m (pc + 3) ls (.int v :: rest))) : W p l e R s m args below meth c H locs cells slots Q (F0 m pc ls (.ref (sy_ad E k) :: rest)) := sy_get fx X hk.1 (sy_en7 hk.2) rfl inW8 j hj hl hsame hv hdg kk
theorem sy_q7 (fx : CallFix p m c cc nL s args sy_W own) (X : sy_Wd E A s S H locs) {k : Nat} (hk : sy_isO E 7 k) (j : Nat) (hj : j < 10) {index : Nat} {ref : String} (hl : Cond.fieldLink own index ref (TX8 j).2.1 (TX8 j).2.2.1 ∈ sy_W) (hsame : ∀ x, s.fieldFound? (TX8 j).1 (TX8 j).2.1 (TX8 j).2.2.1 = some x → s.fieldFound? ref (TX8 j).2.1 (TX8 j).2.2.1 = some x) (hv : (sy_f7 E k (S k))[j]? = some (sy_rv E k j)) {a : Nat} (hr : sy_r E k j = some a) (hdg : decode cc pc = .ok (.getfield index, 3)) (kk : W p l e R s m args below meth c H locs cells slots Q (F0 m (pc + 3) ls (.ref (sy_ad E a) :: rest))) : W p l e R s m args below meth c H locs cells slots Q (F0 m pc ls (.ref (sy_ad E k) :: rest)) := sy_get fx X hk.1 (sy_en7 hk.2) rfl inW8 j hj hl hsame hv hdg (by unfold sy_rv; rw [hr]; exact kk)
theorem sy_p7 (fx : CallFix p m c cc nL s args sy_W own) (X : sy_Wd E A s S H locs) {k : Nat} (hk : sy_isO E 7 k) (j : Nat) (hj : j < 10) {index : Nat} {ref : String} (hl : Cond.fieldLink own index ref (TX8 j).2.1 (TX8 j).2.2.1 ∈ sy_W) (hsame : ∀ x, s.fieldFound? (TX8 j).1 (TX8 j).2.1 (TX8 j).2.2.1 = some x → s.fieldFound? ref (TX8 j).2.1 (TX8 j).2.2.1 = some x) (hfin : (TX8 j).2.2.2 = false) {ty : FieldType} {v : Int32} (hd : parseFieldDescriptor (TX8 j).2.2.1 = some ty) (hn : narrow ty (.int v) = .int v) (hfit : fits ty (.int v) = true) {S1 : sy_St} (hS1 : S1 = sy_up S k j v) (hset : (sy_f7 E k (S k)).set j (.int v) = sy_f7 E k (upd (S k) j v)) (hdg : decode cc pc = .ok (.putfield index, 3)) (kk : ∀ (H1 : Heap) (locs1 : List Loc), sy_Wd E A s S1 H1 locs1 → W p l e R s m args below meth c H1 locs1 cells slots Q (F0 m (pc + 3) ls rest)) : W p l e R s m args below meth c H locs cells slots Q (F0 m pc ls (.int v :: .ref (sy_ad E k) :: rest)) := sy_put fx X hk.1 (sy_en7 hk.2) rfl inW8 tyX8 tyX8_ok nmX8 j hj hl hsame hfin hd hn hfit hj hS1 (by rw [hset, sy_en7 hk.2]) hdg kk
theorem sy_g8 (fx : CallFix p m c cc nL s args sy_W own) (X : sy_Wd E A s S H locs) {k : Nat} (hk : sy_isO E 8 k) (j : Nat) (hj : j < 9) {index : Nat} {ref : String} (hl : Cond.fieldLink own index ref (TX9 j).2.1 (TX9 j).2.2.1 ∈ sy_W) (hsame : ∀ x, s.fieldFound? (TX9 j).1 (TX9 j).2.1 (TX9 j).2.2.1 = some x → s.fieldFound? ref (TX9 j).2.1 (TX9 j).2.2.1 = some x) {v : Int32} (hv : (sy_f8 E k (S k))[j]? = some (.int v)) (hdg : decode cc pc = .ok (.getfield index, 3)) (kk : W p l e R s m args below meth c H locs cells slots Q (F0 m (pc + 3) ls (.int v :: rest))) : W p l e R s m args below meth c H locs cells slots Q (F0 m pc ls (.ref (sy_ad E k) :: rest)) := sy_get fx X hk.1 (sy_en8 hk.2) rfl inW9 j hj hl hsame hv hdg kk
theorem sy_q8 (fx : CallFix p m c cc nL s args sy_W own) (X : sy_Wd E A s S H locs) {k : Nat} (hk : sy_isO E 8 k) (j : Nat) (hj : j < 9) {index : Nat} {ref : String} (hl : Cond.fieldLink own index ref (TX9 j).2.1 (TX9 j).2.2.1 ∈ sy_W) (hsame : ∀ x, s.fieldFound? (TX9 j).1 (TX9 j).2.1 (TX9 j).2.2.1 = some x → s.fieldFound? ref (TX9 j).2.1 (TX9 j).2.2.1 = some x) (hv : (sy_f8 E k (S k))[j]? = some (sy_rv E k j)) {a : Nat} (hr : sy_r E k j = some a) (hdg : decode cc pc = .ok (.getfield index, 3)) (kk : W p l e R s m args below meth c H locs cells slots Q (F0 m (pc + 3) ls (.ref (sy_ad E a) :: rest))) : W p l e R s m args below meth c H locs cells slots Q (F0 m pc ls (.ref (sy_ad E k) :: rest)) := sy_get fx X hk.1 (sy_en8 hk.2) rfl inW9 j hj hl hsame hv hdg (by unfold sy_rv; rw [hr]; exact kk)
theorem sy_p8 (fx : CallFix p m c cc nL s args sy_W own) (X : sy_Wd E A s S H locs) {k : Nat} (hk : sy_isO E 8 k) (j : Nat) (hj : j < 9) {index : Nat} {ref : String} (hl : Cond.fieldLink own index ref (TX9 j).2.1 (TX9 j).2.2.1 ∈ sy_W) (hsame : ∀ x, s.fieldFound? (TX9 j).1 (TX9 j).2.1 (TX9 j).2.2.1 = some x → s.fieldFound? ref (TX9 j).2.1 (TX9 j).2.2.1 = some x) (hfin : (TX9 j).2.2.2 = false) {ty : FieldType} {v : Int32} (hd : parseFieldDescriptor (TX9 j).2.2.1 = some ty) (hn : narrow ty (.int v) = .int v) (hfit : fits ty (.int v) = true) {S1 : sy_St} (hS1 : S1 = sy_up S k j v) (hset : (sy_f8 E k (S k)).set j (.int v) = sy_f8 E k (upd (S k) j v)) (hdg : decode cc pc = .ok (.putfield index, 3)) (kk : ∀ (H1 : Heap) (locs1 : List Loc), sy_Wd E A s S1 H1 locs1 → W p l e R s m args below meth c H1 locs1 cells slots Q (F0 m (pc + 3) ls rest)) : W p l e R s m args below meth c H locs cells slots Q (F0 m pc ls (.int v :: .ref (sy_ad E k) :: rest)) := sy_put fx X hk.1 (sy_en8 hk.2) rfl inW9 tyX9 tyX9_ok nmX9 j hj hl hsame hfin hd hn hfit hj hS1 (by rw [hset, sy_en8 hk.2]) hdg kk
theorem sy_g9 (fx : CallFix p m c cc nL s args sy_W own) (X : sy_Wd E A s S H locs) {k : Nat} (hk : sy_isO E 9 k) (j : Nat) (hj : j < 11) {index : Nat} {ref : String} (hl : Cond.fieldLink own index ref (TX10 j).2.1 (TX10 j).2.2.1 ∈ sy_W) (hsame : ∀ x, s.fieldFound? (TX10 j).1 (TX10 j).2.1 (TX10 j).2.2.1 = some x → s.fieldFound? ref (TX10 j).2.1 (TX10 j).2.2.1 = some x) {v : Int32} (hv : (sy_f9 E k (S k))[j]? = some (.int v)) (hdg : decode cc pc = .ok (.getfield index, 3)) (kk : W p l e R s m args below meth c H locs cells slots Q (F0 m (pc + 3) ls (.int v :: rest))) : W p l e R s m args below meth c H locs cells slots Q (F0 m pc ls (.ref (sy_ad E k) :: rest)) := sy_get fx X hk.1 (sy_en9 hk.2) rfl inW10 j hj hl hsame hv hdg kk
theorem sy_q9 (fx : CallFix p m c cc nL s args sy_W own) (X : sy_Wd E A s S H locs) {k : Nat} (hk : sy_isO E 9 k) (j : Nat) (hj : j < 11) {index : Nat} {ref : String} (hl : Cond.fieldLink own index ref (TX10 j).2.1 (TX10 j).2.2.1 ∈ sy_W) (hsame : ∀ x, s.fieldFound? (TX10 j).1 (TX10 j).2.1 (TX10 j).2.2.1 = some x → s.fieldFound? ref (TX10 j).2.1 (TX10 j).2.2.1 = some x) (hv : (sy_f9 E k (S k))[j]? = some (sy_rv E k j)) {a : Nat} (hr : sy_r E k j = some a) (hdg : decode cc pc = .ok (.getfield index, 3)) (kk : W p l e R s m args below meth c H locs cells slots Q (F0 m (pc + 3) ls (.ref (sy_ad E a) :: rest))) : W p l e R s m args below meth c H locs cells slots Q (F0 m pc ls (.ref (sy_ad E k) :: rest)) := sy_get fx X hk.1 (sy_en9 hk.2) rfl inW10 j hj hl hsame hv hdg (by unfold sy_rv; rw [hr]; exact kk)
theorem sy_p9 (fx : CallFix p m c cc nL s args sy_W own) (X : sy_Wd E A s S H locs) {k : Nat} (hk : sy_isO E 9 k) (j : Nat) (hj : j < 11) {index : Nat} {ref : String} (hl : Cond.fieldLink own index ref (TX10 j).2.1 (TX10 j).2.2.1 ∈ sy_W) (hsame : ∀ x, s.fieldFound? (TX10 j).1 (TX10 j).2.1 (TX10 j).2.2.1 = some x → s.fieldFound? ref (TX10 j).2.1 (TX10 j).2.2.1 = some x) (hfin : (TX10 j).2.2.2 = false) {ty : FieldType} {v : Int32} (hd : parseFieldDescriptor (TX10 j).2.2.1 = some ty) (hn : narrow ty (.int v) = .int v) (hfit : fits ty (.int v) = true) {S1 : sy_St} (hS1 : S1 = sy_up S k j v) (hset : (sy_f9 E k (S k)).set j (.int v) = sy_f9 E k (upd (S k) j v)) (hdg : decode cc pc = .ok (.putfield index, 3)) (kk : ∀ (H1 : Heap) (locs1 : List Loc), sy_Wd E A s S1 H1 locs1 → W p l e R s m args below meth c H1 locs1 cells slots Q (F0 m (pc + 3) ls rest)) : W p l e R s m args below meth c H locs cells slots Q (F0 m pc ls (.int v :: .ref (sy_ad E k) :: rest)) := sy_put fx X hk.1 (sy_en9 hk.2) rfl inW10 tyX10 tyX10_ok nmX10 j hj hl hsame hfin hd hn hfit hj hS1 (by rw [hset, sy_en9 hk.2]) hdg kk
theorem sy_g10 (fx : CallFix p m c cc nL s args sy_W own) (X : sy_Wd E A s S H locs) {k : Nat} (hk : sy_isO E 10 k) (j : Nat) (hj : j < 16) {index : Nat} {ref : String} (hl : Cond.fieldLink own index ref (TX11 j).2.1 (TX11 j).2.2.1 ∈ sy_W) (hsame : ∀ x, s.fieldFound? (TX11 j).1 (TX11 j).2.1 (TX11 j).2.2.1 = some x → s.fieldFound? ref (TX11 j).2.1 (TX11 j).2.2.1 = some x) {v : Int32} (hv : (sy_f10 E k (S k))[j]? = some (.int v)) (hdg : decode cc pc = .ok (.getfield index, 3)) (kk : W p l e R s m args below meth c H locs cells slots Q (F0 m (pc + 3) ls (.int v :: rest))) : W p l e R s m args below meth c H locs cells slots Q (F0 m pc ls (.ref (sy_ad E k) :: rest)) := sy_get fx X hk.1 (sy_en10 hk.2) rfl inW11 j hj hl hsame hv hdg kk
theorem sy_q10 (fx : CallFix p m c cc nL s args sy_W own) (X : sy_Wd E A s S H locs) {k : Nat} (hk : sy_isO E 10 k) (j : Nat) (hj : j < 16) {index : Nat} {ref : String} (hl : Cond.fieldLink own index ref (TX11 j).2.1 (TX11 j).2.2.1 ∈ sy_W) (hsame : ∀ x, s.fieldFound? (TX11 j).1 (TX11 j).2.1 (TX11 j).2.2.1 = some x → s.fieldFound? ref (TX11 j).2.1 (TX11 j).2.2.1 = some x) (hv : (sy_f10 E k (S k))[j]? = some (sy_rv E k j)) {a : Nat} (hr : sy_r E k j = some a) (hdg : decode cc pc = .ok (.getfield index, 3)) (kk : W p l e R s m args below meth c H locs cells slots Q (F0 m (pc + 3) ls (.ref (sy_ad E a) :: rest))) : W p l e R s m args below meth c H locs cells slots Q (F0 m pc ls (.ref (sy_ad E k) :: rest)) := sy_get fx X hk.1 (sy_en10 hk.2) rfl inW11 j hj hl hsame hv hdg (by unfold sy_rv; rw [hr]; exact kk)
theorem sy_p10 (fx : CallFix p m c cc nL s args sy_W own) (X : sy_Wd E A s S H locs) {k : Nat} (hk : sy_isO E 10 k) (j : Nat) (hj : j < 16) {index : Nat} {ref : String} (hl : Cond.fieldLink own index ref (TX11 j).2.1 (TX11 j).2.2.1 ∈ sy_W) (hsame : ∀ x, s.fieldFound? (TX11 j).1 (TX11 j).2.1 (TX11 j).2.2.1 = some x → s.fieldFound? ref (TX11 j).2.1 (TX11 j).2.2.1 = some x) (hfin : (TX11 j).2.2.2 = false) {ty : FieldType} {v : Int32} (hd : parseFieldDescriptor (TX11 j).2.2.1 = some ty) (hn : narrow ty (.int v) = .int v) (hfit : fits ty (.int v) = true) {S1 : sy_St} (hS1 : S1 = sy_up S k j v) (hset : (sy_f10 E k (S k)).set j (.int v) = sy_f10 E k (upd (S k) j v)) (hdg : decode cc pc = .ok (.putfield index, 3)) (kk : ∀ (H1 : Heap) (locs1 : List Loc), sy_Wd E A s S1 H1 locs1 → W p l e R s m args below meth c H1 locs1 cells slots Q (F0 m (pc + 3) ls rest)) : W p l e R s m args below meth c H locs cells slots Q (F0 m pc ls (.int v :: .ref (sy_ad E k) :: rest)) := sy_put fx X hk.1 (sy_en10 hk.2) rfl inW11 tyX11 tyX11_ok nmX11 j hj hl hsame hfin hd hn hfit hj hS1 (by rw [hset, sy_en10 hk.2]) hdg kk
theorem sy_g11 (fx : CallFix p m c cc nL s args sy_W own) (X : sy_Wd E A s S H locs) {k : Nat} (hk : sy_isO E 11 k) (j : Nat) (hj : j < 35) {index : Nat} {ref : String} (hl : Cond.fieldLink own index ref (TX12 j).2.1 (TX12 j).2.2.1 ∈ sy_W) (hsame : ∀ x, s.fieldFound? (TX12 j).1 (TX12 j).2.1 (TX12 j).2.2.1 = some x → s.fieldFound? ref (TX12 j).2.1 (TX12 j).2.2.1 = some x) {v : Int32} (hv : (sy_f11 E k (S k))[j]? = some (.int v)) (hdg : decode cc pc = .ok (.getfield index, 3)) (kk : W p l e R s m args below meth c H locs cells slots Q (F0 m (pc + 3) ls (.int v :: rest))) : W p l e R s m args below meth c H locs cells slots Q (F0 m pc ls (.ref (sy_ad E k) :: rest)) := sy_get fx X hk.1 (sy_en11 hk.2) rfl inW12 j hj hl hsame hv hdg kk
theorem sy_q11 (fx : CallFix p m c cc nL s args sy_W own) (X : sy_Wd E A s S H locs) {k : Nat} (hk : sy_isO E 11 k) (j : Nat) (hj : j < 35) {index : Nat} {ref : String} (hl : Cond.fieldLink own index ref (TX12 j).2.1 (TX12 j).2.2.1 ∈ sy_W) (hsame : ∀ x, s.fieldFound? (TX12 j).1 (TX12 j).2.1 (TX12 j).2.2.1 = some x → s.fieldFound? ref (TX12 j).2.1 (TX12 j).2.2.1 = some x) (hv : (sy_f11 E k (S k))[j]? = some (sy_rv E k j)) {a : Nat} (hr : sy_r E k j = some a) (hdg : decode cc pc = .ok (.getfield index, 3)) (kk : W p l e R s m args below meth c H locs cells slots Q (F0 m (pc + 3) ls (.ref (sy_ad E a) :: rest))) : W p l e R s m args below meth c H locs cells slots Q (F0 m pc ls (.ref (sy_ad E k) :: rest)) := sy_get fx X hk.1 (sy_en11 hk.2) rfl inW12 j hj hl hsame hv hdg (by unfold sy_rv; rw [hr]; exact kk)
theorem sy_p11 (fx : CallFix p m c cc nL s args sy_W own) (X : sy_Wd E A s S H locs) {k : Nat} (hk : sy_isO E 11 k) (j : Nat) (hj : j < 35) {index : Nat} {ref : String} (hl : Cond.fieldLink own index ref (TX12 j).2.1 (TX12 j).2.2.1 ∈ sy_W) (hsame : ∀ x, s.fieldFound? (TX12 j).1 (TX12 j).2.1 (TX12 j).2.2.1 = some x → s.fieldFound? ref (TX12 j).2.1 (TX12 j).2.2.1 = some x) (hfin : (TX12 j).2.2.2 = false) {ty : FieldType} {v : Int32} (hd : parseFieldDescriptor (TX12 j).2.2.1 = some ty) (hn : narrow ty (.int v) = .int v) (hfit : fits ty (.int v) = true) {S1 : sy_St} (hS1 : S1 = sy_up S k j v) (hset : (sy_f11 E k (S k)).set j (.int v) = sy_f11 E k (upd (S k) j v)) (hdg : decode cc pc = .ok (.putfield index, 3)) (kk : ∀ (H1 : Heap) (locs1 : List Loc), sy_Wd E A s S1 H1 locs1 → W p l e R s m args below meth c H1 locs1 cells slots Q (F0 m (pc + 3) ls rest)) : W p l e R s m args below meth c H locs cells slots Q (F0 m pc ls (.int v :: .ref (sy_ad E k) :: rest)) := sy_put fx X hk.1 (sy_en11 hk.2) rfl inW12 tyX12 tyX12_ok nmX12 j hj hl hsame hfin hd hn hfit hj hS1 (by rw [hset, sy_en11 hk.2]) hdg kk
end SYR
theorem sy_s0_3 {E : sy_ET} {k : Nat} {f : Nat → Int32} {v : Int32} : (sy_f0 E k f).set 3 (.int v) = sy_f0 E k (upd f 3 v) := rfl
theorem sy_s1_5 {E : sy_ET} {k : Nat} {f : Nat → Int32} {v : Int32} : (sy_f1 E k f).set 5 (.int v) = sy_f1 E k (upd f 5 v) := rfl
theorem sy_s3_7 {E : sy_ET} {k : Nat} {f : Nat → Int32} {v : Int32} : (sy_f3 E k f).set 7 (.int v) = sy_f3 E k (upd f 7 v) := rfl
theorem sy_s3_8 {E : sy_ET} {k : Nat} {f : Nat → Int32} {v : Int32} : (sy_f3 E k f).set 8 (.int v) = sy_f3 E k (upd f 8 v) := rfl
theorem sy_s3_9 {E : sy_ET} {k : Nat} {f : Nat → Int32} {v : Int32} : (sy_f3 E k f).set 9 (.int v) = sy_f3 E k (upd f 9 v) := rfl
theorem sy_s4_0 {E : sy_ET} {k : Nat} {f : Nat → Int32} {v : Int32} : (sy_f4 E k f).set 0 (.int v) = sy_f4 E k (upd f 0 v) := rfl
theorem sy_s4_1 {E : sy_ET} {k : Nat} {f : Nat → Int32} {v : Int32} : (sy_f4 E k f).set 1 (.int v) = sy_f4 E k (upd f 1 v) := rfl
theorem sy_s4_2 {E : sy_ET} {k : Nat} {f : Nat → Int32} {v : Int32} : (sy_f4 E k f).set 2 (.int v) = sy_f4 E k (upd f 2 v) := rfl
theorem sy_s4_3 {E : sy_ET} {k : Nat} {f : Nat → Int32} {v : Int32} : (sy_f4 E k f).set 3 (.int v) = sy_f4 E k (upd f 3 v) := rfl
theorem sy_s4_4 {E : sy_ET} {k : Nat} {f : Nat → Int32} {v : Int32} : (sy_f4 E k f).set 4 (.int v) = sy_f4 E k (upd f 4 v) := rfl
theorem sy_s4_5 {E : sy_ET} {k : Nat} {f : Nat → Int32} {v : Int32} : (sy_f4 E k f).set 5 (.int v) = sy_f4 E k (upd f 5 v) := rfl
theorem sy_s4_6 {E : sy_ET} {k : Nat} {f : Nat → Int32} {v : Int32} : (sy_f4 E k f).set 6 (.int v) = sy_f4 E k (upd f 6 v) := rfl
theorem sy_s4_7 {E : sy_ET} {k : Nat} {f : Nat → Int32} {v : Int32} : (sy_f4 E k f).set 7 (.int v) = sy_f4 E k (upd f 7 v) := rfl
theorem sy_s5_1 {E : sy_ET} {k : Nat} {f : Nat → Int32} {v : Int32} : (sy_f5 E k f).set 1 (.int v) = sy_f5 E k (upd f 1 v) := rfl
theorem sy_s5_2 {E : sy_ET} {k : Nat} {f : Nat → Int32} {v : Int32} : (sy_f5 E k f).set 2 (.int v) = sy_f5 E k (upd f 2 v) := rfl
theorem sy_s6_2 {E : sy_ET} {k : Nat} {f : Nat → Int32} {v : Int32} : (sy_f6 E k f).set 2 (.int v) = sy_f6 E k (upd f 2 v) := rfl
theorem sy_s6_3 {E : sy_ET} {k : Nat} {f : Nat → Int32} {v : Int32} : (sy_f6 E k f).set 3 (.int v) = sy_f6 E k (upd f 3 v) := rfl
theorem sy_s6_4 {E : sy_ET} {k : Nat} {f : Nat → Int32} {v : Int32} : (sy_f6 E k f).set 4 (.int v) = sy_f6 E k (upd f 4 v) := rfl
theorem sy_s6_5 {E : sy_ET} {k : Nat} {f : Nat → Int32} {v : Int32} : (sy_f6 E k f).set 5 (.int v) = sy_f6 E k (upd f 5 v) := rfl
theorem sy_s6_6 {E : sy_ET} {k : Nat} {f : Nat → Int32} {v : Int32} : (sy_f6 E k f).set 6 (.int v) = sy_f6 E k (upd f 6 v) := rfl
theorem sy_s6_7 {E : sy_ET} {k : Nat} {f : Nat → Int32} {v : Int32} : (sy_f6 E k f).set 7 (.int v) = sy_f6 E k (upd f 7 v) := rfl
theorem sy_s6_8 {E : sy_ET} {k : Nat} {f : Nat → Int32} {v : Int32} : (sy_f6 E k f).set 8 (.int v) = sy_f6 E k (upd f 8 v) := rfl
theorem sy_s7_4 {E : sy_ET} {k : Nat} {f : Nat → Int32} {v : Int32} : (sy_f7 E k f).set 4 (.int v) = sy_f7 E k (upd f 4 v) := rfl
theorem sy_s7_7 {E : sy_ET} {k : Nat} {f : Nat → Int32} {v : Int32} : (sy_f7 E k f).set 7 (.int v) = sy_f7 E k (upd f 7 v) := rfl
theorem sy_s7_8 {E : sy_ET} {k : Nat} {f : Nat → Int32} {v : Int32} : (sy_f7 E k f).set 8 (.int v) = sy_f7 E k (upd f 8 v) := rfl
theorem sy_s7_9 {E : sy_ET} {k : Nat} {f : Nat → Int32} {v : Int32} : (sy_f7 E k f).set 9 (.int v) = sy_f7 E k (upd f 9 v) := rfl
theorem sy_s8_4 {E : sy_ET} {k : Nat} {f : Nat → Int32} {v : Int32} : (sy_f8 E k f).set 4 (.int v) = sy_f8 E k (upd f 4 v) := rfl
theorem sy_s8_6 {E : sy_ET} {k : Nat} {f : Nat → Int32} {v : Int32} : (sy_f8 E k f).set 6 (.int v) = sy_f8 E k (upd f 6 v) := rfl
theorem sy_s8_7 {E : sy_ET} {k : Nat} {f : Nat → Int32} {v : Int32} : (sy_f8 E k f).set 7 (.int v) = sy_f8 E k (upd f 7 v) := rfl
theorem sy_s8_8 {E : sy_ET} {k : Nat} {f : Nat → Int32} {v : Int32} : (sy_f8 E k f).set 8 (.int v) = sy_f8 E k (upd f 8 v) := rfl
theorem sy_s9_5 {E : sy_ET} {k : Nat} {f : Nat → Int32} {v : Int32} : (sy_f9 E k f).set 5 (.int v) = sy_f9 E k (upd f 5 v) := rfl
theorem sy_s9_6 {E : sy_ET} {k : Nat} {f : Nat → Int32} {v : Int32} : (sy_f9 E k f).set 6 (.int v) = sy_f9 E k (upd f 6 v) := rfl
theorem sy_s9_7 {E : sy_ET} {k : Nat} {f : Nat → Int32} {v : Int32} : (sy_f9 E k f).set 7 (.int v) = sy_f9 E k (upd f 7 v) := rfl
theorem sy_s9_8 {E : sy_ET} {k : Nat} {f : Nat → Int32} {v : Int32} : (sy_f9 E k f).set 8 (.int v) = sy_f9 E k (upd f 8 v) := rfl
theorem sy_s9_9 {E : sy_ET} {k : Nat} {f : Nat → Int32} {v : Int32} : (sy_f9 E k f).set 9 (.int v) = sy_f9 E k (upd f 9 v) := rfl
theorem sy_s9_10 {E : sy_ET} {k : Nat} {f : Nat → Int32} {v : Int32} : (sy_f9 E k f).set 10 (.int v) = sy_f9 E k (upd f 10 v) := rfl
theorem sy_s10_14 {E : sy_ET} {k : Nat} {f : Nat → Int32} {v : Int32} : (sy_f10 E k f).set 14 (.int v) = sy_f10 E k (upd f 14 v) := rfl
theorem sy_s10_15 {E : sy_ET} {k : Nat} {f : Nat → Int32} {v : Int32} : (sy_f10 E k f).set 15 (.int v) = sy_f10 E k (upd f 15 v) := rfl
theorem sy_s11_0 {E : sy_ET} {k : Nat} {f : Nat → Int32} {v : Int32} : (sy_f11 E k f).set 0 (.int v) = sy_f11 E k (upd f 0 v) := rfl
theorem sy_s11_2 {E : sy_ET} {k : Nat} {f : Nat → Int32} {v : Int32} : (sy_f11 E k f).set 2 (.int v) = sy_f11 E k (upd f 2 v) := rfl
theorem sy_s11_3 {E : sy_ET} {k : Nat} {f : Nat → Int32} {v : Int32} : (sy_f11 E k f).set 3 (.int v) = sy_f11 E k (upd f 3 v) := rfl
theorem sy_s11_4 {E : sy_ET} {k : Nat} {f : Nat → Int32} {v : Int32} : (sy_f11 E k f).set 4 (.int v) = sy_f11 E k (upd f 4 v) := rfl
theorem sy_s11_5 {E : sy_ET} {k : Nat} {f : Nat → Int32} {v : Int32} : (sy_f11 E k f).set 5 (.int v) = sy_f11 E k (upd f 5 v) := rfl
theorem sy_s11_6 {E : sy_ET} {k : Nat} {f : Nat → Int32} {v : Int32} : (sy_f11 E k f).set 6 (.int v) = sy_f11 E k (upd f 6 v) := rfl
theorem sy_s11_7 {E : sy_ET} {k : Nat} {f : Nat → Int32} {v : Int32} : (sy_f11 E k f).set 7 (.int v) = sy_f11 E k (upd f 7 v) := rfl
theorem sy_s11_8 {E : sy_ET} {k : Nat} {f : Nat → Int32} {v : Int32} : (sy_f11 E k f).set 8 (.int v) = sy_f11 E k (upd f 8 v) := rfl
theorem sy_s11_10 {E : sy_ET} {k : Nat} {f : Nat → Int32} {v : Int32} : (sy_f11 E k f).set 10 (.int v) = sy_f11 E k (upd f 10 v) := rfl
theorem sy_s11_13 {E : sy_ET} {k : Nat} {f : Nat → Int32} {v : Int32} : (sy_f11 E k f).set 13 (.int v) = sy_f11 E k (upd f 13 v) := rfl
theorem sy_s11_14 {E : sy_ET} {k : Nat} {f : Nat → Int32} {v : Int32} : (sy_f11 E k f).set 14 (.int v) = sy_f11 E k (upd f 14 v) := rfl
theorem sy_s11_15 {E : sy_ET} {k : Nat} {f : Nat → Int32} {v : Int32} : (sy_f11 E k f).set 15 (.int v) = sy_f11 E k (upd f 15 v) := rfl
theorem sy_s11_16 {E : sy_ET} {k : Nat} {f : Nat → Int32} {v : Int32} : (sy_f11 E k f).set 16 (.int v) = sy_f11 E k (upd f 16 v) := rfl
theorem sy_s11_17 {E : sy_ET} {k : Nat} {f : Nat → Int32} {v : Int32} : (sy_f11 E k f).set 17 (.int v) = sy_f11 E k (upd f 17 v) := rfl
theorem sy_s11_19 {E : sy_ET} {k : Nat} {f : Nat → Int32} {v : Int32} : (sy_f11 E k f).set 19 (.int v) = sy_f11 E k (upd f 19 v) := rfl
theorem sy_s11_26 {E : sy_ET} {k : Nat} {f : Nat → Int32} {v : Int32} : (sy_f11 E k f).set 26 (.int v) = sy_f11 E k (upd f 26 v) := rfl
theorem sy_s11_28 {E : sy_ET} {k : Nat} {f : Nat → Int32} {v : Int32} : (sy_f11 E k f).set 28 (.int v) = sy_f11 E k (upd f 28 v) := rfl
theorem sy_s11_30 {E : sy_ET} {k : Nat} {f : Nat → Int32} {v : Int32} : (sy_f11 E k f).set 30 (.int v) = sy_f11 E k (upd f 30 v) := rfl
