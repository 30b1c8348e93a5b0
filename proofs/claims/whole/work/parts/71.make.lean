/-! ===== making cells: the world grows ===== -/
def sy_ne (E : sy_ET) (q : Nat) : sy_ET := (sy_D E, sy_I E, sy_Z E, sy_Y E, (fun i => if i = sy_n E then q else sy_ad E i), (sy_n E + 1, sy_k E, sy_l E, sy_r E))
def sy_rs (E : sy_ET) (k j a : Nat) : sy_ET := (sy_D E, sy_I E, sy_Z E, sy_Y E, sy_ad E, (sy_n E, sy_k E, sy_l E, fun i x => if i = k ∧ x = j then some a else sy_r E i x))
/-- references point at cells that are there -/
def sy_clo (E : sy_ET) : Prop := ∀ k j a, sy_r E k j = some a → a < sy_n E
theorem sy_ne_ad {E : sy_ET} {q i : Nat} (h : i < sy_n E) : sy_ad (sy_ne E q) i = sy_ad E i := if_neg (by omega)
theorem sy_ne_q {E : sy_ET} {q : Nat} : sy_ad (sy_ne E q) (sy_n E) = q := if_pos rfl
theorem sy_en_ad {E E2 : sy_ET} {k : Nat} {f : Nat → Int32} (hk : sy_k E2 k = sy_k E k) (hl : sy_l E2 k = sy_l E k) (hI : sy_I E2 = sy_I E) (hZ : sy_Z E2 = sy_Z E) (hY : sy_Y E2 = sy_Y E) (hr : ∀ j, (sy_r E2 k j).map (sy_ad E2) = (sy_r E k j).map (sy_ad E)) : sy_en E2 k f = sy_en E k f := by
  have hv : ∀ j, sy_rv E2 k j = sy_rv E k j := fun j => by unfold sy_rv; rw [hr]
  have hf : (fun j => (sy_r E2 k j).map (sy_ad E2)) = fun j => (sy_r E k j).map (sy_ad E) := funext hr
  unfold sy_en
  rw [hk]
  split <;> simp only [sy_f0, sy_f1, sy_f2, sy_f3, sy_f4, sy_f5, sy_f6, sy_f7, sy_f8, sy_f9, sy_f10, sy_f11, hv, hI, hZ, hY, hl, hf]
theorem sy_wl_ne {E : sy_ET} {S : sy_St} {q : Nat} (hc : sy_clo E) : sy_wl (sy_ne E q) S = sy_wl E S ++ [(q, sy_en (sy_ne E q) (sy_n E) (S (sy_n E)))] := by
  have h1 : sy_n (sy_ne E q) = sy_n E + 1 := rfl
  unfold sy_wl
  rw [h1, List.range_succ, List.map_append, List.map_cons, List.map_nil, sy_ne_q]
  congr 1
  apply List.map_congr_left
  intro k hk
  have hk := List.mem_range.mp hk
  rw [sy_ne_ad hk, sy_en_ad (E2 := sy_ne E q) (E := E) rfl rfl rfl rfl rfl (fun j => ?_)]
  show (sy_r E k j).map (sy_ad (sy_ne E q)) = (sy_r E k j).map (sy_ad E)
  cases hr : sy_r E k j with
  | none => rfl
  | some a => show some _ = some _; rw [sy_ne_ad (hc k j a hr)]
theorem sy_wl_rs {E : sy_ET} {S : sy_St} {k j a : Nat} : sy_wl (sy_rs E k j a) S = (sy_wl E S).set k (sy_ad E k, sy_en (sy_rs E k j a) k (S k)) := by
  apply List.ext_getElem?
  intro i
  have hn : sy_n (sy_rs E k j a) = sy_n E := rfl
  rw [List.getElem?_set]
  by_cases hi : i < sy_n E
  · rw [sy_wl_at (E := sy_rs E k j a) (by rw [hn]; exact hi), sy_wl_at hi]
    by_cases hk : k = i
    · subst hk
      have hl : k < (sy_wl E S).length := by
        unfold sy_wl
        rw [List.length_map, List.length_range]
        exact hi
      rw [if_pos rfl, if_pos hl]
      rfl
    · rw [if_neg hk]
      show some (sy_ad E i, _) = _
      rw [sy_en_ad (E2 := sy_rs E k j a) (E := E) rfl rfl rfl rfl rfl (fun x => ?_)]
      show (if i = k ∧ x = j then some a else sy_r E i x).map (sy_ad E) = _
      rw [if_neg (fun q => hk q.1.symm)]
  · rw [sy_wl_no (E := sy_rs E k j a) (by rw [hn]; exact hi), sy_wl_no hi]
    by_cases hk : k = i
    · subst hk
      have hl : ¬ k < (sy_wl E S).length := by
        unfold sy_wl
        rw [List.length_map, List.length_range]
        exact hi
      rw [if_pos rfl, if_neg hl]
    · rw [if_neg hk]
theorem sy_rv_rs {E : sy_ET} {k j a x : Nat} : sy_rv (sy_rs E k j a) k x = if x = j then .ref (sy_ad E a) else sy_rv E k x := by
  unfold sy_rv
  show va_rf ((if k = k ∧ x = j then some a else sy_r E k x).map (sy_ad E)) = _
  by_cases h : x = j
  · rw [if_pos ⟨rfl, h⟩, if_pos h]; rfl
  · rw [if_neg (fun q => h q.2), if_neg h]
theorem sy_rv_0 {E : sy_ET} {k x : Nat} (h : sy_r E k x = none) : sy_rv E k x = .null := by
  unfold sy_rv
  rw [h]; rfl
/-- how far a constructor is: m cells more than at its start, the references as they are now -/
def sy_Q (E0 E : sy_ET) (m : Nat) (rr : Nat → Nat → Option Nat) : Prop := sy_n E = sy_n E0 + m ∧ sy_k E = sy_k E0 ∧ sy_l E = sy_l E0 ∧ sy_D E = sy_D E0 ∧ sy_I E = sy_I E0 ∧ sy_Z E = sy_Z E0 ∧ sy_Y E = sy_Y E0 ∧ (∀ i, i < sy_n E0 → sy_ad E i = sy_ad E0 i) ∧ sy_r E = rr ∧ sy_clo E
theorem sy_Q_0 {E : sy_ET} (h : sy_clo E) : sy_Q E E 0 (sy_r E) := ⟨rfl, rfl, rfl, rfl, rfl, rfl, rfl, fun _ _ => rfl, rfl, h⟩
theorem sy_Q_n {E0 E : sy_ET} {m q : Nat} {rr : Nat → Nat → Option Nat} (h : sy_Q E0 E m rr) : sy_Q E0 (sy_ne E q) (m + 1) rr := by
  obtain ⟨h1, h2, h3, h4, h5, h6, h7, h8, h9, h10⟩ := h
  refine ⟨by show sy_n E + 1 = _; omega, h2, h3, h4, h5, h6, h7, fun i hi => by rw [sy_ne_ad (by omega)]; exact h8 i hi, h9, fun k j a e => ?_⟩
  have := h10 k j a e
  show a < sy_n E + 1
  omega
theorem sy_Q_r {E0 E : sy_ET} {m k j a : Nat} {rr : Nat → Nat → Option Nat} (h : sy_Q E0 E m rr) (ha : a < sy_n E) : sy_Q E0 (sy_rs E k j a) m (fun i x => if i = k ∧ x = j then some a else rr i x) := by
  obtain ⟨h1, h2, h3, h4, h5, h6, h7, h8, h9, h10⟩ := h
  refine ⟨h1, h2, h3, h4, h5, h6, h7, h8, ?_, fun k2 j2 a2 e => ?_⟩
  · funext i x
    show (if i = k ∧ x = j then some a else sy_r E i x) = _
    rw [h9]
  · have e : (if k2 = k ∧ j2 = j then some a else sy_r E k2 j2) = some a2 := e
    by_cases q : k2 = k ∧ j2 = j
    · rw [if_pos q] at e; cases e; exact ha
    · rw [if_neg q] at e; exact h10 k2 j2 a2 e
theorem sy_Q_t {E0 E1 E2 : sy_ET} {m1 m2 : Nat} {r1 r2 : Nat → Nat → Option Nat} (h : sy_Q E0 E1 m1 r1) (g : sy_Q E1 E2 m2 r2) : sy_Q E0 E2 (m1 + m2) r2 := by
  obtain ⟨h1, h2, h3, h4, h5, h6, h7, h8, h9, h10⟩ := h
  obtain ⟨g1, g2, g3, g4, g5, g6, g7, g8, g9, g10⟩ := g
  exact ⟨by omega, by rw [g2, h2], by rw [g3, h3], by rw [g4, h4], by rw [g5, h5], by rw [g6, h6], by rw [g7, h7], fun i hi => by rw [g8 i (by omega), h8 i hi], g9, g10⟩
theorem sy_Q_c {E0 E : sy_ET} {m m2 : Nat} {rr r2 : Nat → Nat → Option Nat} (h : sy_Q E0 E m rr) (hm : m = m2) (hr : rr = r2) : sy_Q E0 E m2 r2 := by subst hm; subst hr; exact h
section SYM
variable {p : Program} {l : Launch} {e : Env} {R : Room} {s : State} {m : MethodId} {args : Array Value} {below : List Frame} {meth : Method} {c : Code} {H : Heap} {locs : List Loc} {cells slots : Nat} {Q : State → Prop}
variable {cc : ByteArray} {pc nL : Nat} {ls : Array Slot} {rest : List Value} {A : Nat → Prop} {E : sy_ET} {S : sy_St} {own : String}
/-- a new object -/
theorem sy_newo (fx : CallFix p m c cc nL s args sy_W own) (hA : ∀ q, s.heap.size ≤ q → A q) (X : sy_Wd E A s S H locs) (hcl : sy_clo E) {ci N : Nat} {C : String} {T : u_T} (hc : vwCl[ci]? = some (C, T, N)) (hin : ∀ w ∈ u_ws C T N, w ∈ sy_W) (ty0 : Nat → FieldType) (hty : ∀ k, k < N → parseFieldDescriptor (T k).2.2.1 = some (ty0 k)) {index : Nat} (w1 : Cond.classLink own index C ∈ sy_W) (w2 : Cond.instantiable C N ∈ sy_W) (w3 : Cond.initialized C ∈ sy_W) {fs : List Value} (hfs : ∀ j, j < N → defaultValue (ty0 j) = vp_V fs j) (hen : ∀ q, sy_en (sy_ne E q) (sy_n E) (S (sy_n E)) = .inr (ci, fs)) (hcells : cells + 1 ≤ R.cells) (hslots : slots + N ≤ R.slots) (hdg : decode cc pc = .ok (.new index, 3))
    (kk : ∀ (q : Nat) (H1 : Heap), sy_Wd (sy_ne E q) A s S H1 locs → W p l e R s m args below meth c H1 locs (cells + 1) (slots + N) Q (F0 m (pc + 3) ls (.ref q :: rest))) : W p l e R s m args below meth c H locs cells slots Q (F0 m pc ls rest) := by
  obtain ⟨hx, hb, hml, hown, hts⟩ := fx
  obtain ⟨⟨hK, hN⟩, hP, hD, hS⟩ := X
  refine va_new hx hb hts hin ty0 hty hown (hts _ w1) (hts _ w2) (hts _ w3) hK hP hD hS hA hc hfs hcells hslots hdg (fun q H1 hP1 hD1 hS1 => ?_)
  rw [← hen q, ← sy_wl_ne hcl] at hP1 hD1
  exact kk q H1 ⟨⟨hK, hN⟩, hP1, hD1, hS1⟩
theorem sy_tyI {cA : ClassId} (hK : va_K (sy_D E) vwCl (sy_ty E ++ [(cA, .int)]) s) : cA = sy_I E := by
  have h0 := (hK.2 0 (sy_I E, .int) rfl).2
  have h3 := (hK.2 3 (cA, .int) rfl).2
  exact Option.some.inj (h3.symm.trans h0)
theorem sy_tyZ {cA : ClassId} (hK : va_K (sy_D E) vwCl (sy_ty E ++ [(cA, .boolean)]) s) : cA = sy_Z E := by
  have h0 := (hK.2 1 (sy_Z E, .boolean) rfl).2
  have h3 := (hK.2 3 (cA, .boolean) rfl).2
  exact Option.some.inj (h3.symm.trans h0)
theorem sy_tyY {cA : ClassId} (hK : va_K (sy_D E) vwCl (sy_ty E ++ [(cA, .object RX10)]) s) : cA = sy_Y E := by
  obtain ⟨k0, c0, -, -, -, f0⟩ := (hK.2 2 (sy_Y E, .object RX10) rfl).2
  obtain ⟨k3, c3, -, -, -, f3⟩ := (hK.2 3 (cA, .object RX10) rfl).2
  exact Option.some.inj (f3.symm.trans f0)
/-- a new array of ints, of booleans, of skies -/
theorem sy_newI (fx : CallFix p m c cc nL s args sy_W own) (hA : ∀ q, s.heap.size ≤ q → A q) (X : sy_Wd E A s S H locs) (hcl : sy_clo E) {n : Int32} {N : Nat} (hk : sy_k E (sy_n E) = 12) (hl : sy_l E (sy_n E) = N) (hz : S (sy_n E) = fun _ => 0) (hn : ¬ n < 0) (hN : n.toNatClampNeg = N) (hbytes : N * componentBytes .int ≤ 536870912) (hcells : cells + 1 ≤ R.cells) (hslots : slots + N ≤ R.slots) (hdg : decode cc pc = .ok (.newarray .int, 2))
    (kk : ∀ (q : Nat) (H1 : Heap), sy_Wd (sy_ne E q) A s S H1 locs → W p l e R s m args below meth c H1 locs (cells + 1) (slots + N) Q (F0 m (pc + 2) ls (.ref q :: rest))) : W p l e R s m args below meth c H locs cells slots Q (F0 m pc ls (.int n :: rest)) := by
  obtain ⟨hx, hb, hml, hown, hts⟩ := fx
  obtain ⟨⟨hK, hN2⟩, hP, hD, hS⟩ := X
  refine va_newa (atype := .int) (ty := .int) (a0 := (N, .inl (fun _ => 0))) hx hb (hts _ wm_32) rfl hK hP hD hS hA (fun cA => rfl) hn hN hbytes hcells hslots hdg (fun q cA H1 hK1 hP1 hD1 hS1 => ?_)
  have hc := sy_tyI hK1
  subst hc
  have he : sy_en (sy_ne E q) (sy_n E) (S (sy_n E)) = .inl (sy_I E, N, .inl (fun _ => 0)) := by
    rw [sy_en12 (E := sy_ne E q) hk, hz]
    show Sum.inl (sy_I E, sy_l E (sy_n E), _) = _
    rw [hl]
  rw [← he, ← sy_wl_ne hcl] at hP1 hD1
  exact kk q H1 ⟨⟨hK, hN2⟩, hP1, hD1, hS1⟩
theorem sy_newZ (fx : CallFix p m c cc nL s args sy_W own) (hA : ∀ q, s.heap.size ≤ q → A q) (X : sy_Wd E A s S H locs) (hcl : sy_clo E) {n : Int32} {N : Nat} (hk : sy_k E (sy_n E) = 13) (hl : sy_l E (sy_n E) = N) (hz : S (sy_n E) = fun _ => 0) (hn : ¬ n < 0) (hN : n.toNatClampNeg = N) (hbytes : N * componentBytes .boolean ≤ 536870912) (hcells : cells + 1 ≤ R.cells) (hslots : slots + N ≤ R.slots) (hdg : decode cc pc = .ok (.newarray .boolean, 2))
    (kk : ∀ (q : Nat) (H1 : Heap), sy_Wd (sy_ne E q) A s S H1 locs → W p l e R s m args below meth c H1 locs (cells + 1) (slots + N) Q (F0 m (pc + 2) ls (.ref q :: rest))) : W p l e R s m args below meth c H locs cells slots Q (F0 m pc ls (.int n :: rest)) := by
  obtain ⟨hx, hb, hml, hown, hts⟩ := fx
  obtain ⟨⟨hK, hN2⟩, hP, hD, hS⟩ := X
  refine va_newa (atype := .boolean) (ty := .boolean) (a0 := (N, .inl (fun _ => 0))) hx hb (hts _ wm_30) rfl hK hP hD hS hA (fun cA => rfl) hn hN hbytes hcells hslots hdg (fun q cA H1 hK1 hP1 hD1 hS1 => ?_)
  have hc := sy_tyZ hK1
  subst hc
  have he : sy_en (sy_ne E q) (sy_n E) (S (sy_n E)) = .inl (sy_Z E, N, .inl (fun _ => 0)) := by
    rw [sy_en13 (E := sy_ne E q) hk, hz]
    show Sum.inl (sy_Z E, sy_l E (sy_n E), _) = _
    rw [hl]
  rw [← he, ← sy_wl_ne hcl] at hP1 hD1
  exact kk q H1 ⟨⟨hK, hN2⟩, hP1, hD1, hS1⟩
theorem sy_newY (fx : CallFix p m c cc nL s args sy_W own) (hA : ∀ q, s.heap.size ≤ q → A q) (hao : va_AO RX10 s) (X : sy_Wd E A s S H locs) (hcl : sy_clo E) {n : Int32} {N index : Nat} (w1 : Cond.classLink own index RX10 ∈ sy_W) (hk : sy_k E (sy_n E) = 14) (hl : sy_l E (sy_n E) = N) (hz : ∀ j, sy_r E (sy_n E) j = none) (hn : ¬ n < 0) (hN : n.toNatClampNeg = N) (hbytes : N * 4 ≤ 536870912) (hcells : cells + 1 ≤ R.cells) (hslots : slots + N ≤ R.slots) (hdg : decode cc pc = .ok (.anewarray index, 3))
    (kk : ∀ (q : Nat) (H1 : Heap), sy_Wd (sy_ne E q) A s S H1 locs → W p l e R s m args below meth c H1 locs (cells + 1) (slots + N) Q (F0 m (pc + 3) ls (.ref q :: rest))) : W p l e R s m args below meth c H locs cells slots Q (F0 m pc ls (.int n :: rest)) := by
  obtain ⟨hx, hb, hml, hown, hts⟩ := fx
  obtain ⟨⟨hK, hN2⟩, hP, hD, hS⟩ := X
  refine va_newq hx hb hown (hts _ w1) hao hK hP hD hS hA hn hN hbytes hcells hslots hdg (fun q cA H1 hK1 hP1 hD1 hS1 => ?_)
  have hc := sy_tyY hK1
  subst hc
  have he : sy_en (sy_ne E q) (sy_n E) (S (sy_n E)) = .inl (sy_Y E, N, .inr (.inr (.inr (.inr (fun _ => none))))) := by
    rw [sy_en14 (E := sy_ne E q) hk]
    show Sum.inl (sy_Y E, sy_l E (sy_n E), Sum.inr (Sum.inr (Sum.inr (Sum.inr (fun j => (sy_r E (sy_n E) j).map _))))) = _
    rw [hl]
    simp only [hz, Option.map_none]
  rw [← he, ← sy_wl_ne hcl] at hP1 hD1
  exact kk q H1 ⟨⟨hK, hN2⟩, hP1, hD1, hS1⟩
/-- a final field of the object that is made -/
theorem sy_putr (fx : CallFix p m c cc nL s args sy_W own) (hin2 : meth.name = "<init>") (X : sy_Wd E A s S H locs) {k ci : Nat} {C : String} {T : u_T} {N : Nat} {fs : List Value} (hk : k < sy_n E) (he : sy_en E k (S k) = .inr (ci, fs)) (hc : vwCl[ci]? = some (C, T, N)) (hin : ∀ w ∈ u_ws C T N, w ∈ sy_W) (ty0 : Nat → FieldType) (hty : ∀ k, k < N → parseFieldDescriptor (T k).2.2.1 = some (ty0 k)) (hnm : ∀ a, a < N → ∀ b, b < N → a ≠ b → (T a).2.1 ≠ (T b).2.1) (j : Nat) (hj : j < N) {index : Nat} {ref : String} (hl : Cond.fieldLink own index ref (T j).2.1 (T j).2.2.1 ∈ sy_W) (hsame : ∀ x, s.fieldFound? (T j).1 (T j).2.1 (T j).2.2.1 = some x → s.fieldFound? ref (T j).2.1 (T j).2.2.1 = some x) (hfin : (T j).2.2.2 = true) (hdecl : (T j).1 = own) {ty : FieldType} {v : Nat} (hd : parseFieldDescriptor (T j).2.2.1 = some ty) (hn : narrow ty (.ref v) = .ref v) (hfit : fits ty (.ref v) = true) (hlen : j < fs.length) {b a : Nat} (hb0 : sy_ad E k = b) (hv : sy_ad E a = v)
    (hset : (.inr (ci, fs.set j (.ref (sy_ad E a))) : va_E) = sy_en (sy_rs E k j a) k (S k)) (hdg : decode cc pc = .ok (.putfield index, 3))
    (kk : ∀ (H1 : Heap) (locs1 : List Loc), sy_Wd (sy_rs E k j a) A s S H1 locs1 → W p l e R s m args below meth c H1 locs1 cells slots Q (F0 m (pc + 3) ls rest)) : W p l e R s m args below meth c H locs cells slots Q (F0 m pc ls (.ref v :: .ref b :: rest)) := by
  obtain ⟨hx, hb, hml, hown, hts⟩ := fx
  obtain ⟨⟨hK, hN⟩, hP, hD, hS⟩ := X
  subst hb0
  subst hv
  refine va_putF hx hb hts hin ty0 hty hnm hown hK hP hD hS k (by rw [sy_wl_at hk, he]) hc j hj (hts _ hl) hsame hfin hin2 hdecl hd hn hfit hlen hdg (fun H1 locs1 hP1 hD1 hS1' => ?_)
  rw [hset, ← sy_wl_rs] at hP1 hD1
  exact kk H1 locs1 ⟨⟨hK, hN⟩, hP1, hD1, hS1'⟩
/-- a sky into an array of skies -/
theorem sy_ast (fx : CallFix p m c cc nL s args sy_W own) (X : sy_Wd E A s S H locs) {k n a : Nat} (hk : sy_isY E k n) (ha : sy_isO E 9 a) {i : Int32} (hin : sy_in i n) {v b : Nat} (hb0 : sy_ad E k = b) (hv : sy_ad E a = v) (hdg : decode cc pc = .ok (.aastore, 1))
    (kk : ∀ (H1 : Heap) (locs1 : List Loc), sy_Wd (sy_rs E k i.toNatClampNeg a) A s S H1 locs1 → W p l e R s m args below meth c H1 locs1 cells slots Q (F0 m (pc + 1) ls rest)) : W p l e R s m args below meth c H locs cells slots Q (F0 m pc ls (.ref v :: .int i :: .ref b :: rest)) := by
  obtain ⟨hx, hb, hml, hown, hts⟩ := fx
  obtain ⟨⟨hK, hN⟩, hP, hD, hS⟩ := X
  obtain ⟨k1, k2, k3⟩ := hk
  subst hb0
  subst hv
  refine va_astq (r := (RX10, TX10, 11)) hx hb hK hP hD hS k 2 a 9 (by rw [sy_wl_at k1, sy_en14 k2]) rfl (by rw [sy_wl_at ha.1, sy_en9 ha.2]) rfl (by rw [k3]; exact hin) hdg (fun H1 locs1 hP1 hD1 hS1' => ?_)
  have he : sy_en (sy_rs E k i.toNatClampNeg a) k (S k) = .inl (sy_Y E, sy_l E k, .inr (.inr (.inr (.inr (va_up (fun j => (sy_r E k j).map (sy_ad E)) i.toNatClampNeg (some (sy_ad E a))))))) := by
    rw [sy_en14 (E := sy_rs E k i.toNatClampNeg a) k2]
    show Sum.inl (sy_Y E, sy_l E k, Sum.inr (Sum.inr (Sum.inr (Sum.inr (fun j => (if k = k ∧ j = i.toNatClampNeg then some a else sy_r E k j).map (sy_ad E)))))) = _
    congr 7
    funext j
    unfold va_up
    by_cases q : j = i.toNatClampNeg
    · rw [if_pos ⟨rfl, q⟩, if_pos q]; rfl
    · rw [if_neg (fun z => q z.2), if_neg q]
  rw [← he, ← sy_wl_rs] at hP1 hD1
  exact kk H1 locs1 ⟨⟨hK, hN⟩, hP1, hD1, hS1'⟩
/-- Object's constructor -/
theorem sy_obj0 (fx : CallFix p m c cc nL s args sy_W own) (hsz : ls.size = nL) {index a : Nat} (w1 : Cond.methodLink own index objectInit ∈ sy_W) (hdg : decode cc pc = .ok (.invokespecial index, 3)) (hframes : 1 ≤ R.frames) (hlocals : (rest.map fun v => v.category).sum + 12 ≤ R.locals)
    (kk : W p l e R s m args below meth c H locs cells slots Q (F0 m (pc + 3) ls rest)) : W p l e R s m args below meth c H locs cells slots Q (F0 m pc ls (.ref a :: rest)) := by
  obtain ⟨hx, hb, hml, hown, hts⟩ := fx
  exact W.objInit hx hb hown (hts _ w1) (hts _ wm_10) (hts _ wm_11) rfl (hsz.trans hml.symm) rfl hdg hframes (by show 2 * 0 + _ + 12 ≤ _; omega) kk
theorem sy_h0 (fx : CallFix p m c cc nL s args sy_W own) (hin2 : meth.name = "<init>") (X : sy_Wd E A s S H locs) {k : Nat} (hk : sy_isO E 0 k) (j : Nat) (hj : j < 4) {index : Nat} {ref : String} (hl : Cond.fieldLink own index ref (TX0 j).2.1 (TX0 j).2.2.1 ∈ sy_W) (hsame : ∀ x, s.fieldFound? (TX0 j).1 (TX0 j).2.1 (TX0 j).2.2.1 = some x → s.fieldFound? ref (TX0 j).2.1 (TX0 j).2.2.1 = some x) (hfin : (TX0 j).2.2.2 = true) (hdecl : (TX0 j).1 = own) {ty : FieldType} {v : Nat} (hd : parseFieldDescriptor (TX0 j).2.2.1 = some ty) (hn : narrow ty (.ref v) = .ref v) (hfit : fits ty (.ref v) = true) {b a : Nat} (hb0 : sy_ad E k = b) (hv : sy_ad E a = v) (hset : (sy_f0 E k (S k)).set j (.ref (sy_ad E a)) = sy_f0 (sy_rs E k j a) k (S k)) (hdg : decode cc pc = .ok (.putfield index, 3)) (kk : ∀ (H1 : Heap) (locs1 : List Loc), sy_Wd (sy_rs E k j a) A s S H1 locs1 → W p l e R s m args below meth c H1 locs1 cells slots Q (F0 m (pc + 3) ls rest)) : W p l e R s m args below meth c H locs cells slots Q (F0 m pc ls (.ref v :: .ref b :: rest)) := sy_putr fx hin2 X hk.1 (sy_en0 hk.2) rfl inW0 tyX0 tyX0_ok nmX0 j hj hl hsame hfin hdecl hd hn hfit hj hb0 hv (by rw [hset, sy_en0 (E := sy_rs E k j a) hk.2]) hdg kk
theorem sy_h1 (fx : CallFix p m c cc nL s args sy_W own) (hin2 : meth.name = "<init>") (X : sy_Wd E A s S H locs) {k : Nat} (hk : sy_isO E 1 k) (j : Nat) (hj : j < 6) {index : Nat} {ref : String} (hl : Cond.fieldLink own index ref (TX1 j).2.1 (TX1 j).2.2.1 ∈ sy_W) (hsame : ∀ x, s.fieldFound? (TX1 j).1 (TX1 j).2.1 (TX1 j).2.2.1 = some x → s.fieldFound? ref (TX1 j).2.1 (TX1 j).2.2.1 = some x) (hfin : (TX1 j).2.2.2 = true) (hdecl : (TX1 j).1 = own) {ty : FieldType} {v : Nat} (hd : parseFieldDescriptor (TX1 j).2.2.1 = some ty) (hn : narrow ty (.ref v) = .ref v) (hfit : fits ty (.ref v) = true) {b a : Nat} (hb0 : sy_ad E k = b) (hv : sy_ad E a = v) (hset : (sy_f1 E k (S k)).set j (.ref (sy_ad E a)) = sy_f1 (sy_rs E k j a) k (S k)) (hdg : decode cc pc = .ok (.putfield index, 3)) (kk : ∀ (H1 : Heap) (locs1 : List Loc), sy_Wd (sy_rs E k j a) A s S H1 locs1 → W p l e R s m args below meth c H1 locs1 cells slots Q (F0 m (pc + 3) ls rest)) : W p l e R s m args below meth c H locs cells slots Q (F0 m pc ls (.ref v :: .ref b :: rest)) := sy_putr fx hin2 X hk.1 (sy_en1 hk.2) rfl inW1 tyX1 tyX1_ok nmX1 j hj hl hsame hfin hdecl hd hn hfit hj hb0 hv (by rw [hset, sy_en1 (E := sy_rs E k j a) hk.2]) hdg kk
theorem sy_h2 (fx : CallFix p m c cc nL s args sy_W own) (hin2 : meth.name = "<init>") (X : sy_Wd E A s S H locs) {k : Nat} (hk : sy_isO E 2 k) (j : Nat) (hj : j < 3) {index : Nat} {ref : String} (hl : Cond.fieldLink own index ref (TX2 j).2.1 (TX2 j).2.2.1 ∈ sy_W) (hsame : ∀ x, s.fieldFound? (TX2 j).1 (TX2 j).2.1 (TX2 j).2.2.1 = some x → s.fieldFound? ref (TX2 j).2.1 (TX2 j).2.2.1 = some x) (hfin : (TX2 j).2.2.2 = true) (hdecl : (TX2 j).1 = own) {ty : FieldType} {v : Nat} (hd : parseFieldDescriptor (TX2 j).2.2.1 = some ty) (hn : narrow ty (.ref v) = .ref v) (hfit : fits ty (.ref v) = true) {b a : Nat} (hb0 : sy_ad E k = b) (hv : sy_ad E a = v) (hset : (sy_f2 E k (S k)).set j (.ref (sy_ad E a)) = sy_f2 (sy_rs E k j a) k (S k)) (hdg : decode cc pc = .ok (.putfield index, 3)) (kk : ∀ (H1 : Heap) (locs1 : List Loc), sy_Wd (sy_rs E k j a) A s S H1 locs1 → W p l e R s m args below meth c H1 locs1 cells slots Q (F0 m (pc + 3) ls rest)) : W p l e R s m args below meth c H locs cells slots Q (F0 m pc ls (.ref v :: .ref b :: rest)) := sy_putr fx hin2 X hk.1 (sy_en2 hk.2) rfl inW2 tyX2 tyX2_ok nmX2 j hj hl hsame hfin hdecl hd hn hfit hj hb0 hv (by rw [hset, sy_en2 (E := sy_rs E k j a) hk.2]) hdg kk
theorem sy_h3 (fx : CallFix p m c cc nL s args sy_W own) (hin2 : meth.name = "<init>") (X : sy_Wd E A s S H locs) {k : Nat} (hk : sy_isO E 3 k) (j : Nat) (hj : j < 10) {index : Nat} {ref : String} (hl : Cond.fieldLink own index ref (TX3 j).2.1 (TX3 j).2.2.1 ∈ sy_W) (hsame : ∀ x, s.fieldFound? (TX3 j).1 (TX3 j).2.1 (TX3 j).2.2.1 = some x → s.fieldFound? ref (TX3 j).2.1 (TX3 j).2.2.1 = some x) (hfin : (TX3 j).2.2.2 = true) (hdecl : (TX3 j).1 = own) {ty : FieldType} {v : Nat} (hd : parseFieldDescriptor (TX3 j).2.2.1 = some ty) (hn : narrow ty (.ref v) = .ref v) (hfit : fits ty (.ref v) = true) {b a : Nat} (hb0 : sy_ad E k = b) (hv : sy_ad E a = v) (hset : (sy_f3 E k (S k)).set j (.ref (sy_ad E a)) = sy_f3 (sy_rs E k j a) k (S k)) (hdg : decode cc pc = .ok (.putfield index, 3)) (kk : ∀ (H1 : Heap) (locs1 : List Loc), sy_Wd (sy_rs E k j a) A s S H1 locs1 → W p l e R s m args below meth c H1 locs1 cells slots Q (F0 m (pc + 3) ls rest)) : W p l e R s m args below meth c H locs cells slots Q (F0 m pc ls (.ref v :: .ref b :: rest)) := sy_putr fx hin2 X hk.1 (sy_en3 hk.2) rfl inW3 tyX3 tyX3_ok nmX3 j hj hl hsame hfin hdecl hd hn hfit hj hb0 hv (by rw [hset, sy_en3 (E := sy_rs E k j a) hk.2]) hdg kk
theorem sy_h5 (fx : CallFix p m c cc nL s args sy_W own) (hin2 : meth.name = "<init>") (X : sy_Wd E A s S H locs) {k : Nat} (hk : sy_isO E 5 k) (j : Nat) (hj : j < 3) {index : Nat} {ref : String} (hl : Cond.fieldLink own index ref (TX5 j).2.1 (TX5 j).2.2.1 ∈ sy_W) (hsame : ∀ x, s.fieldFound? (TX5 j).1 (TX5 j).2.1 (TX5 j).2.2.1 = some x → s.fieldFound? ref (TX5 j).2.1 (TX5 j).2.2.1 = some x) (hfin : (TX5 j).2.2.2 = true) (hdecl : (TX5 j).1 = own) {ty : FieldType} {v : Nat} (hd : parseFieldDescriptor (TX5 j).2.2.1 = some ty) (hn : narrow ty (.ref v) = .ref v) (hfit : fits ty (.ref v) = true) {b a : Nat} (hb0 : sy_ad E k = b) (hv : sy_ad E a = v) (hset : (sy_f5 E k (S k)).set j (.ref (sy_ad E a)) = sy_f5 (sy_rs E k j a) k (S k)) (hdg : decode cc pc = .ok (.putfield index, 3)) (kk : ∀ (H1 : Heap) (locs1 : List Loc), sy_Wd (sy_rs E k j a) A s S H1 locs1 → W p l e R s m args below meth c H1 locs1 cells slots Q (F0 m (pc + 3) ls rest)) : W p l e R s m args below meth c H locs cells slots Q (F0 m pc ls (.ref v :: .ref b :: rest)) := sy_putr fx hin2 X hk.1 (sy_en5 hk.2) rfl inW5 tyX5 tyX5_ok nmX5 j hj hl hsame hfin hdecl hd hn hfit hj hb0 hv (by rw [hset, sy_en5 (E := sy_rs E k j a) hk.2]) hdg kk
theorem sy_h6 (fx : CallFix p m c cc nL s args sy_W own) (hin2 : meth.name = "<init>") (X : sy_Wd E A s S H locs) {k : Nat} (hk : sy_isO E 6 k) (j : Nat) (hj : j < 9) {index : Nat} {ref : String} (hl : Cond.fieldLink own index ref (TX6 j).2.1 (TX6 j).2.2.1 ∈ sy_W) (hsame : ∀ x, s.fieldFound? (TX6 j).1 (TX6 j).2.1 (TX6 j).2.2.1 = some x → s.fieldFound? ref (TX6 j).2.1 (TX6 j).2.2.1 = some x) (hfin : (TX6 j).2.2.2 = true) (hdecl : (TX6 j).1 = own) {ty : FieldType} {v : Nat} (hd : parseFieldDescriptor (TX6 j).2.2.1 = some ty) (hn : narrow ty (.ref v) = .ref v) (hfit : fits ty (.ref v) = true) {b a : Nat} (hb0 : sy_ad E k = b) (hv : sy_ad E a = v) (hset : (sy_f6 E k (S k)).set j (.ref (sy_ad E a)) = sy_f6 (sy_rs E k j a) k (S k)) (hdg : decode cc pc = .ok (.putfield index, 3)) (kk : ∀ (H1 : Heap) (locs1 : List Loc), sy_Wd (sy_rs E k j a) A s S H1 locs1 → W p l e R s m args below meth c H1 locs1 cells slots Q (F0 m (pc + 3) ls rest)) : W p l e R s m args below meth c H locs cells slots Q (F0 m pc ls (.ref v :: .ref b :: rest)) := sy_putr fx hin2 X hk.1 (sy_en6 hk.2) rfl inW6 tyX6 tyX6_ok nmX6 j hj hl hsame hfin hdecl hd hn hfit hj hb0 hv (by rw [hset, sy_en6 (E := sy_rs E k j a) hk.2]) hdg kk
theorem sy_h7 (fx : CallFix p m c cc nL s args sy_W own) (hin2 : meth.name = "<init>") (X : sy_Wd E A s S H locs) {k : Nat} (hk : sy_isO E 7 k) (j : Nat) (hj : j < 10) {index : Nat} {ref : String} (hl : Cond.fieldLink own index ref (TX8 j).2.1 (TX8 j).2.2.1 ∈ sy_W) (hsame : ∀ x, s.fieldFound? (TX8 j).1 (TX8 j).2.1 (TX8 j).2.2.1 = some x → s.fieldFound? ref (TX8 j).2.1 (TX8 j).2.2.1 = some x) (hfin : (TX8 j).2.2.2 = true) (hdecl : (TX8 j).1 = own) {ty : FieldType} {v : Nat} (hd : parseFieldDescriptor (TX8 j).2.2.1 = some ty) (hn : narrow ty (.ref v) = .ref v) (hfit : fits ty (.ref v) = true) {b a : Nat} (hb0 : sy_ad E k = b) (hv : sy_ad E a = v) (hset : (sy_f7 E k (S k)).set j (.ref (sy_ad E a)) = sy_f7 (sy_rs E k j a) k (S k)) (hdg : decode cc pc = .ok (.putfield index, 3)) (kk : ∀ (H1 : Heap) (locs1 : List Loc), sy_Wd (sy_rs E k j a) A s S H1 locs1 → W p l e R s m args below meth c H1 locs1 cells slots Q (F0 m (pc + 3) ls rest)) : W p l e R s m args below meth c H locs cells slots Q (F0 m pc ls (.ref v :: .ref b :: rest)) := sy_putr fx hin2 X hk.1 (sy_en7 hk.2) rfl inW8 tyX8 tyX8_ok nmX8 j hj hl hsame hfin hdecl hd hn hfit hj hb0 hv (by rw [hset, sy_en7 (E := sy_rs E k j a) hk.2]) hdg kk
theorem sy_h8 (fx : CallFix p m c cc nL s args sy_W own) (hin2 : meth.name = "<init>") (X : sy_Wd E A s S H locs) {k : Nat} (hk : sy_isO E 8 k) (j : Nat) (hj : j < 9) {index : Nat} {ref : String} (hl : Cond.fieldLink own index ref (TX9 j).2.1 (TX9 j).2.2.1 ∈ sy_W) (hsame : ∀ x, s.fieldFound? (TX9 j).1 (TX9 j).2.1 (TX9 j).2.2.1 = some x → s.fieldFound? ref (TX9 j).2.1 (TX9 j).2.2.1 = some x) (hfin : (TX9 j).2.2.2 = true) (hdecl : (TX9 j).1 = own) {ty : FieldType} {v : Nat} (hd : parseFieldDescriptor (TX9 j).2.2.1 = some ty) (hn : narrow ty (.ref v) = .ref v) (hfit : fits ty (.ref v) = true) {b a : Nat} (hb0 : sy_ad E k = b) (hv : sy_ad E a = v) (hset : (sy_f8 E k (S k)).set j (.ref (sy_ad E a)) = sy_f8 (sy_rs E k j a) k (S k)) (hdg : decode cc pc = .ok (.putfield index, 3)) (kk : ∀ (H1 : Heap) (locs1 : List Loc), sy_Wd (sy_rs E k j a) A s S H1 locs1 → W p l e R s m args below meth c H1 locs1 cells slots Q (F0 m (pc + 3) ls rest)) : W p l e R s m args below meth c H locs cells slots Q (F0 m pc ls (.ref v :: .ref b :: rest)) := sy_putr fx hin2 X hk.1 (sy_en8 hk.2) rfl inW9 tyX9 tyX9_ok nmX9 j hj hl hsame hfin hdecl hd hn hfit hj hb0 hv (by rw [hset, sy_en8 (E := sy_rs E k j a) hk.2]) hdg kk
theorem sy_h9 (fx : CallFix p m c cc nL s args sy_W own) (hin2 : meth.name = "<init>") (X : sy_Wd E A s S H locs) {k : Nat} (hk : sy_isO E 9 k) (j : Nat) (hj : j < 11) {index : Nat} {ref : String} (hl : Cond.fieldLink own index ref (TX10 j).2.1 (TX10 j).2.2.1 ∈ sy_W) (hsame : ∀ x, s.fieldFound? (TX10 j).1 (TX10 j).2.1 (TX10 j).2.2.1 = some x → s.fieldFound? ref (TX10 j).2.1 (TX10 j).2.2.1 = some x) (hfin : (TX10 j).2.2.2 = true) (hdecl : (TX10 j).1 = own) {ty : FieldType} {v : Nat} (hd : parseFieldDescriptor (TX10 j).2.2.1 = some ty) (hn : narrow ty (.ref v) = .ref v) (hfit : fits ty (.ref v) = true) {b a : Nat} (hb0 : sy_ad E k = b) (hv : sy_ad E a = v) (hset : (sy_f9 E k (S k)).set j (.ref (sy_ad E a)) = sy_f9 (sy_rs E k j a) k (S k)) (hdg : decode cc pc = .ok (.putfield index, 3)) (kk : ∀ (H1 : Heap) (locs1 : List Loc), sy_Wd (sy_rs E k j a) A s S H1 locs1 → W p l e R s m args below meth c H1 locs1 cells slots Q (F0 m (pc + 3) ls rest)) : W p l e R s m args below meth c H locs cells slots Q (F0 m pc ls (.ref v :: .ref b :: rest)) := sy_putr fx hin2 X hk.1 (sy_en9 hk.2) rfl inW10 tyX10 tyX10_ok nmX10 j hj hl hsame hfin hdecl hd hn hfit hj hb0 hv (by rw [hset, sy_en9 (E := sy_rs E k j a) hk.2]) hdg kk
theorem sy_h10 (fx : CallFix p m c cc nL s args sy_W own) (hin2 : meth.name = "<init>") (X : sy_Wd E A s S H locs) {k : Nat} (hk : sy_isO E 10 k) (j : Nat) (hj : j < 16) {index : Nat} {ref : String} (hl : Cond.fieldLink own index ref (TX11 j).2.1 (TX11 j).2.2.1 ∈ sy_W) (hsame : ∀ x, s.fieldFound? (TX11 j).1 (TX11 j).2.1 (TX11 j).2.2.1 = some x → s.fieldFound? ref (TX11 j).2.1 (TX11 j).2.2.1 = some x) (hfin : (TX11 j).2.2.2 = true) (hdecl : (TX11 j).1 = own) {ty : FieldType} {v : Nat} (hd : parseFieldDescriptor (TX11 j).2.2.1 = some ty) (hn : narrow ty (.ref v) = .ref v) (hfit : fits ty (.ref v) = true) {b a : Nat} (hb0 : sy_ad E k = b) (hv : sy_ad E a = v) (hset : (sy_f10 E k (S k)).set j (.ref (sy_ad E a)) = sy_f10 (sy_rs E k j a) k (S k)) (hdg : decode cc pc = .ok (.putfield index, 3)) (kk : ∀ (H1 : Heap) (locs1 : List Loc), sy_Wd (sy_rs E k j a) A s S H1 locs1 → W p l e R s m args below meth c H1 locs1 cells slots Q (F0 m (pc + 3) ls rest)) : W p l e R s m args below meth c H locs cells slots Q (F0 m pc ls (.ref v :: .ref b :: rest)) := sy_putr fx hin2 X hk.1 (sy_en10 hk.2) rfl inW11 tyX11 tyX11_ok nmX11 j hj hl hsame hfin hdecl hd hn hfit hj hb0 hv (by rw [hset, sy_en10 (E := sy_rs E k j a) hk.2]) hdg kk
theorem sy_h11 (fx : CallFix p m c cc nL s args sy_W own) (hin2 : meth.name = "<init>") (X : sy_Wd E A s S H locs) {k : Nat} (hk : sy_isO E 11 k) (j : Nat) (hj : j < 35) {index : Nat} {ref : String} (hl : Cond.fieldLink own index ref (TX12 j).2.1 (TX12 j).2.2.1 ∈ sy_W) (hsame : ∀ x, s.fieldFound? (TX12 j).1 (TX12 j).2.1 (TX12 j).2.2.1 = some x → s.fieldFound? ref (TX12 j).2.1 (TX12 j).2.2.1 = some x) (hfin : (TX12 j).2.2.2 = true) (hdecl : (TX12 j).1 = own) {ty : FieldType} {v : Nat} (hd : parseFieldDescriptor (TX12 j).2.2.1 = some ty) (hn : narrow ty (.ref v) = .ref v) (hfit : fits ty (.ref v) = true) {b a : Nat} (hb0 : sy_ad E k = b) (hv : sy_ad E a = v) (hset : (sy_f11 E k (S k)).set j (.ref (sy_ad E a)) = sy_f11 (sy_rs E k j a) k (S k)) (hdg : decode cc pc = .ok (.putfield index, 3)) (kk : ∀ (H1 : Heap) (locs1 : List Loc), sy_Wd (sy_rs E k j a) A s S H1 locs1 → W p l e R s m args below meth c H1 locs1 cells slots Q (F0 m (pc + 3) ls rest)) : W p l e R s m args below meth c H locs cells slots Q (F0 m pc ls (.ref v :: .ref b :: rest)) := sy_putr fx hin2 X hk.1 (sy_en11 hk.2) rfl inW12 tyX12 tyX12_ok nmX12 j hj hl hsame hfin hdecl hd hn hfit hj hb0 hv (by rw [hset, sy_en11 (E := sy_rs E k j a) hk.2]) hdg kk
end SYM
