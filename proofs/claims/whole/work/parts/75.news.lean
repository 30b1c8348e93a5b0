/-! ===== new objects, class by class; how a maker of other objects stands ===== -/
theorem dv_0 : ∀ j, j < 4 → defaultValue (tyX0 j) = vp_V ([.null, .null, .null, .int 0] : List Value) j := by decide +kernel
theorem fv_0 {E : sy_ET} {k : Nat} (h : ∀ j, sy_r E k j = none) : sy_f0 E k (fun _ => 0) = ([.null, .null, .null, .int 0] : List Value) := by
  simp only [sy_f0, sy_rv_0 (h _)]
theorem dv_1 : ∀ j, j < 6 → defaultValue (tyX1 j) = vp_V ([.null, .null, .null, .null, .null, .int 0] : List Value) j := by decide +kernel
theorem fv_1 {E : sy_ET} {k : Nat} (h : ∀ j, sy_r E k j = none) : sy_f1 E k (fun _ => 0) = ([.null, .null, .null, .null, .null, .int 0] : List Value) := by
  simp only [sy_f1, sy_rv_0 (h _)]
theorem dv_2 : ∀ j, j < 3 → defaultValue (tyX2 j) = vp_V ([.null, .null, .null] : List Value) j := by decide +kernel
theorem fv_2 {E : sy_ET} {k : Nat} (h : ∀ j, sy_r E k j = none) : sy_f2 E k (fun _ => 0) = ([.null, .null, .null] : List Value) := by
  simp only [sy_f2, sy_rv_0 (h _)]
theorem dv_3 : ∀ j, j < 10 → defaultValue (tyX3 j) = vp_V ([.null, .null, .null, .null, .null, .null, .null, .int 0, .int 0, .int 0] : List Value) j := by decide +kernel
theorem fv_3 {E : sy_ET} {k : Nat} (h : ∀ j, sy_r E k j = none) : sy_f3 E k (fun _ => 0) = ([.null, .null, .null, .null, .null, .null, .null, .int 0, .int 0, .int 0] : List Value) := by
  simp only [sy_f3, sy_rv_0 (h _)]
theorem dv_4 : ∀ j, j < 8 → defaultValue (tyX4 j) = vp_V ([.int 0, .int 0, .int 0, .int 0, .int 0, .int 0, .int 0, .int 0] : List Value) j := by decide +kernel
theorem fv_4 {E : sy_ET} {k : Nat} (h : ∀ j, sy_r E k j = none) : sy_f4 E k (fun _ => 0) = ([.int 0, .int 0, .int 0, .int 0, .int 0, .int 0, .int 0, .int 0] : List Value) := by
  rfl
theorem dv_5 : ∀ j, j < 3 → defaultValue (tyX5 j) = vp_V ([.null, .int 0, .int 0] : List Value) j := by decide +kernel
theorem fv_5 {E : sy_ET} {k : Nat} (h : ∀ j, sy_r E k j = none) : sy_f5 E k (fun _ => 0) = ([.null, .int 0, .int 0] : List Value) := by
  simp only [sy_f5, sy_rv_0 (h _)]
theorem dv_6 : ∀ j, j < 9 → defaultValue (tyX6 j) = vp_V ([.null, .null, .int 0, .int 0, .int 0, .int 0, .int 0, .int 0, .int 0] : List Value) j := by decide +kernel
theorem fv_6 {E : sy_ET} {k : Nat} (h : ∀ j, sy_r E k j = none) : sy_f6 E k (fun _ => 0) = ([.null, .null, .int 0, .int 0, .int 0, .int 0, .int 0, .int 0, .int 0] : List Value) := by
  simp only [sy_f6, sy_rv_0 (h _)]
theorem dv_7 : ∀ j, j < 10 → defaultValue (tyX8 j) = vp_V ([.null, .null, .null, .null, .int 0, .null, .null, .int 0, .int 0, .int 0] : List Value) j := by decide +kernel
theorem fv_7 {E : sy_ET} {k : Nat} (h : ∀ j, sy_r E k j = none) : sy_f7 E k (fun _ => 0) = ([.null, .null, .null, .null, .int 0, .null, .null, .int 0, .int 0, .int 0] : List Value) := by
  simp only [sy_f7, sy_rv_0 (h _)]
theorem dv_8 : ∀ j, j < 9 → defaultValue (tyX9 j) = vp_V ([.null, .null, .null, .null, .int 0, .null, .int 0, .int 0, .int 0] : List Value) j := by decide +kernel
theorem fv_8 {E : sy_ET} {k : Nat} (h : ∀ j, sy_r E k j = none) : sy_f8 E k (fun _ => 0) = ([.null, .null, .null, .null, .int 0, .null, .int 0, .int 0, .int 0] : List Value) := by
  simp only [sy_f8, sy_rv_0 (h _)]
theorem dv_9 : ∀ j, j < 11 → defaultValue (tyX10 j) = vp_V ([.null, .null, .null, .null, .null, .int 0, .int 0, .int 0, .int 0, .int 0, .int 0] : List Value) j := by decide +kernel
theorem fv_9 {E : sy_ET} {k : Nat} (h : ∀ j, sy_r E k j = none) : sy_f9 E k (fun _ => 0) = ([.null, .null, .null, .null, .null, .int 0, .int 0, .int 0, .int 0, .int 0, .int 0] : List Value) := by
  simp only [sy_f9, sy_rv_0 (h _)]
theorem dv_10 : ∀ j, j < 16 → defaultValue (tyX11 j) = vp_V ([.null, .null, .null, .null, .null, .null, .null, .null, .null, .null, .null, .null, .null, .null, .int 0, .int 0] : List Value) j := by decide +kernel
theorem fv_10 {E : sy_ET} {k : Nat} (h : ∀ j, sy_r E k j = none) : sy_f10 E k (fun _ => 0) = ([.null, .null, .null, .null, .null, .null, .null, .null, .null, .null, .null, .null, .null, .null, .int 0, .int 0] : List Value) := by
  simp only [sy_f10, sy_rv_0 (h _)]
theorem dv_11 : ∀ j, j < 35 → defaultValue (tyX12 j) = vp_V ([.int 0, .null, .int 0, .int 0, .int 0, .int 0, .int 0, .int 0, .int 0, .null, .int 0, .null, .null, .int 0, .int 0, .int 0, .int 0, .int 0, .null, .int 0, .null, .null, .null, .null, .null, .null, .int 0, .null, .int 0, .null, .int 0, .null, .null, .null, .null] : List Value) j := by decide +kernel
theorem fv_11 {E : sy_ET} {k : Nat} (h : ∀ j, sy_r E k j = none) : sy_f11 E k (fun _ => 0) = ([.int 0, .null, .int 0, .int 0, .int 0, .int 0, .int 0, .int 0, .int 0, .null, .int 0, .null, .null, .int 0, .int 0, .int 0, .int 0, .int 0, .null, .int 0, .null, .null, .null, .null, .null, .null, .int 0, .null, .int 0, .null, .int 0, .null, .null, .null, .null] : List Value) := by
  simp only [sy_f11, sy_rv_0 (h _)]
section SYO
variable {p : Program} {l : Launch} {e : Env} {R : Room} {s : State} {m : MethodId} {args : Array Value} {below : List Frame} {meth : Method} {c : Code} {H : Heap} {locs : List Loc} {cells slots : Nat} {Q : State → Prop}
variable {cc : ByteArray} {pc nL : Nat} {ls : Array Slot} {rest : List Value} {A : Nat → Prop} {E : sy_ET} {S : sy_St} {own : String}
theorem sy_new0 (fx : CallFix p m c cc nL s args sy_W own) (hA : ∀ q, s.heap.size ≤ q → A q) (X : sy_Wd E A s S H locs) (hcl : sy_clo E) {index : Nat} (w1 : Cond.classLink own index RX0 ∈ sy_W) (hk : sy_k E (sy_n E) = 0) (hr : ∀ j, sy_r E (sy_n E) j = none) (hz : S (sy_n E) = fun _ => 0) (hcells : cells + 1 ≤ R.cells) (hslots : slots + 4 ≤ R.slots) (hdg : decode cc pc = .ok (.new index, 3))
    (kk : ∀ (q : Nat) (H1 : Heap), sy_Wd (sy_ne E q) A s S H1 locs → W p l e R s m args below meth c H1 locs (cells + 1) (slots + 4) Q (F0 m (pc + 3) ls (.ref q :: rest))) : W p l e R s m args below meth c H locs cells slots Q (F0 m pc ls rest) :=
  sy_newo fx hA X hcl (ci := 0) rfl inW0 tyX0 tyX0_ok w1 wm_47 wm_48 dv_0 (fun q => by rw [hz, sy_en0 (E := sy_ne E q) hk, fv_0 (E := sy_ne E q) hr]) hcells hslots hdg kk
theorem sy_new1 (fx : CallFix p m c cc nL s args sy_W own) (hA : ∀ q, s.heap.size ≤ q → A q) (X : sy_Wd E A s S H locs) (hcl : sy_clo E) {index : Nat} (w1 : Cond.classLink own index RX1 ∈ sy_W) (hk : sy_k E (sy_n E) = 1) (hr : ∀ j, sy_r E (sy_n E) j = none) (hz : S (sy_n E) = fun _ => 0) (hcells : cells + 1 ≤ R.cells) (hslots : slots + 6 ≤ R.slots) (hdg : decode cc pc = .ok (.new index, 3))
    (kk : ∀ (q : Nat) (H1 : Heap), sy_Wd (sy_ne E q) A s S H1 locs → W p l e R s m args below meth c H1 locs (cells + 1) (slots + 6) Q (F0 m (pc + 3) ls (.ref q :: rest))) : W p l e R s m args below meth c H locs cells slots Q (F0 m pc ls rest) :=
  sy_newo fx hA X hcl (ci := 1) rfl inW1 tyX1 tyX1_ok w1 wm_43 wm_44 dv_1 (fun q => by rw [hz, sy_en1 (E := sy_ne E q) hk, fv_1 (E := sy_ne E q) hr]) hcells hslots hdg kk
theorem sy_new2 (fx : CallFix p m c cc nL s args sy_W own) (hA : ∀ q, s.heap.size ≤ q → A q) (X : sy_Wd E A s S H locs) (hcl : sy_clo E) {index : Nat} (w1 : Cond.classLink own index RX2 ∈ sy_W) (hk : sy_k E (sy_n E) = 2) (hr : ∀ j, sy_r E (sy_n E) j = none) (hz : S (sy_n E) = fun _ => 0) (hcells : cells + 1 ≤ R.cells) (hslots : slots + 3 ≤ R.slots) (hdg : decode cc pc = .ok (.new index, 3))
    (kk : ∀ (q : Nat) (H1 : Heap), sy_Wd (sy_ne E q) A s S H1 locs → W p l e R s m args below meth c H1 locs (cells + 1) (slots + 3) Q (F0 m (pc + 3) ls (.ref q :: rest))) : W p l e R s m args below meth c H locs cells slots Q (F0 m pc ls rest) :=
  sy_newo fx hA X hcl (ci := 2) rfl inW2 tyX2 tyX2_ok w1 wm_51 wm_52 dv_2 (fun q => by rw [hz, sy_en2 (E := sy_ne E q) hk, fv_2 (E := sy_ne E q) hr]) hcells hslots hdg kk
theorem sy_new3 (fx : CallFix p m c cc nL s args sy_W own) (hA : ∀ q, s.heap.size ≤ q → A q) (X : sy_Wd E A s S H locs) (hcl : sy_clo E) {index : Nat} (w1 : Cond.classLink own index RX3 ∈ sy_W) (hk : sy_k E (sy_n E) = 3) (hr : ∀ j, sy_r E (sy_n E) j = none) (hz : S (sy_n E) = fun _ => 0) (hcells : cells + 1 ≤ R.cells) (hslots : slots + 10 ≤ R.slots) (hdg : decode cc pc = .ok (.new index, 3))
    (kk : ∀ (q : Nat) (H1 : Heap), sy_Wd (sy_ne E q) A s S H1 locs → W p l e R s m args below meth c H1 locs (cells + 1) (slots + 10) Q (F0 m (pc + 3) ls (.ref q :: rest))) : W p l e R s m args below meth c H locs cells slots Q (F0 m pc ls rest) :=
  sy_newo fx hA X hcl (ci := 3) rfl inW3 tyX3 tyX3_ok w1 wm_13 wm_14 dv_3 (fun q => by rw [hz, sy_en3 (E := sy_ne E q) hk, fv_3 (E := sy_ne E q) hr]) hcells hslots hdg kk
theorem sy_new4 (fx : CallFix p m c cc nL s args sy_W own) (hA : ∀ q, s.heap.size ≤ q → A q) (X : sy_Wd E A s S H locs) (hcl : sy_clo E) {index : Nat} (w1 : Cond.classLink own index RX4 ∈ sy_W) (hk : sy_k E (sy_n E) = 4) (hr : ∀ j, sy_r E (sy_n E) j = none) (hz : S (sy_n E) = fun _ => 0) (hcells : cells + 1 ≤ R.cells) (hslots : slots + 8 ≤ R.slots) (hdg : decode cc pc = .ok (.new index, 3))
    (kk : ∀ (q : Nat) (H1 : Heap), sy_Wd (sy_ne E q) A s S H1 locs → W p l e R s m args below meth c H1 locs (cells + 1) (slots + 8) Q (F0 m (pc + 3) ls (.ref q :: rest))) : W p l e R s m args below meth c H locs cells slots Q (F0 m pc ls rest) :=
  sy_newo fx hA X hcl (ci := 4) rfl inW4 tyX4 tyX4_ok w1 wm_55 wm_56 dv_4 (fun q => by rw [hz, sy_en4 (E := sy_ne E q) hk, fv_4 (E := sy_ne E q) hr]) hcells hslots hdg kk
theorem sy_new5 (fx : CallFix p m c cc nL s args sy_W own) (hA : ∀ q, s.heap.size ≤ q → A q) (X : sy_Wd E A s S H locs) (hcl : sy_clo E) {index : Nat} (w1 : Cond.classLink own index RX5 ∈ sy_W) (hk : sy_k E (sy_n E) = 5) (hr : ∀ j, sy_r E (sy_n E) j = none) (hz : S (sy_n E) = fun _ => 0) (hcells : cells + 1 ≤ R.cells) (hslots : slots + 3 ≤ R.slots) (hdg : decode cc pc = .ok (.new index, 3))
    (kk : ∀ (q : Nat) (H1 : Heap), sy_Wd (sy_ne E q) A s S H1 locs → W p l e R s m args below meth c H1 locs (cells + 1) (slots + 3) Q (F0 m (pc + 3) ls (.ref q :: rest))) : W p l e R s m args below meth c H locs cells slots Q (F0 m pc ls rest) :=
  sy_newo fx hA X hcl (ci := 5) rfl inW5 tyX5 tyX5_ok w1 wm_26 wm_27 dv_5 (fun q => by rw [hz, sy_en5 (E := sy_ne E q) hk, fv_5 (E := sy_ne E q) hr]) hcells hslots hdg kk
theorem sy_new6 (fx : CallFix p m c cc nL s args sy_W own) (hA : ∀ q, s.heap.size ≤ q → A q) (X : sy_Wd E A s S H locs) (hcl : sy_clo E) {index : Nat} (w1 : Cond.classLink own index RX6 ∈ sy_W) (hk : sy_k E (sy_n E) = 6) (hr : ∀ j, sy_r E (sy_n E) j = none) (hz : S (sy_n E) = fun _ => 0) (hcells : cells + 1 ≤ R.cells) (hslots : slots + 9 ≤ R.slots) (hdg : decode cc pc = .ok (.new index, 3))
    (kk : ∀ (q : Nat) (H1 : Heap), sy_Wd (sy_ne E q) A s S H1 locs → W p l e R s m args below meth c H1 locs (cells + 1) (slots + 9) Q (F0 m (pc + 3) ls (.ref q :: rest))) : W p l e R s m args below meth c H locs cells slots Q (F0 m pc ls rest) :=
  sy_newo fx hA X hcl (ci := 6) rfl inW6 tyX6 tyX6_ok w1 wm_20 wm_21 dv_6 (fun q => by rw [hz, sy_en6 (E := sy_ne E q) hk, fv_6 (E := sy_ne E q) hr]) hcells hslots hdg kk
theorem sy_new7 (fx : CallFix p m c cc nL s args sy_W own) (hA : ∀ q, s.heap.size ≤ q → A q) (X : sy_Wd E A s S H locs) (hcl : sy_clo E) {index : Nat} (w1 : Cond.classLink own index RX8 ∈ sy_W) (hk : sy_k E (sy_n E) = 7) (hr : ∀ j, sy_r E (sy_n E) j = none) (hz : S (sy_n E) = fun _ => 0) (hcells : cells + 1 ≤ R.cells) (hslots : slots + 10 ≤ R.slots) (hdg : decode cc pc = .ok (.new index, 3))
    (kk : ∀ (q : Nat) (H1 : Heap), sy_Wd (sy_ne E q) A s S H1 locs → W p l e R s m args below meth c H1 locs (cells + 1) (slots + 10) Q (F0 m (pc + 3) ls (.ref q :: rest))) : W p l e R s m args below meth c H locs cells slots Q (F0 m pc ls rest) :=
  sy_newo fx hA X hcl (ci := 7) rfl inW8 tyX8 tyX8_ok w1 wm_39 wm_40 dv_7 (fun q => by rw [hz, sy_en7 (E := sy_ne E q) hk, fv_7 (E := sy_ne E q) hr]) hcells hslots hdg kk
theorem sy_new8 (fx : CallFix p m c cc nL s args sy_W own) (hA : ∀ q, s.heap.size ≤ q → A q) (X : sy_Wd E A s S H locs) (hcl : sy_clo E) {index : Nat} (w1 : Cond.classLink own index RX9 ∈ sy_W) (hk : sy_k E (sy_n E) = 8) (hr : ∀ j, sy_r E (sy_n E) j = none) (hz : S (sy_n E) = fun _ => 0) (hcells : cells + 1 ≤ R.cells) (hslots : slots + 9 ≤ R.slots) (hdg : decode cc pc = .ok (.new index, 3))
    (kk : ∀ (q : Nat) (H1 : Heap), sy_Wd (sy_ne E q) A s S H1 locs → W p l e R s m args below meth c H1 locs (cells + 1) (slots + 9) Q (F0 m (pc + 3) ls (.ref q :: rest))) : W p l e R s m args below meth c H locs cells slots Q (F0 m pc ls rest) :=
  sy_newo fx hA X hcl (ci := 8) rfl inW9 tyX9 tyX9_ok w1 wm_35 wm_36 dv_8 (fun q => by rw [hz, sy_en8 (E := sy_ne E q) hk, fv_8 (E := sy_ne E q) hr]) hcells hslots hdg kk
theorem sy_new9 (fx : CallFix p m c cc nL s args sy_W own) (hA : ∀ q, s.heap.size ≤ q → A q) (X : sy_Wd E A s S H locs) (hcl : sy_clo E) {index : Nat} (w1 : Cond.classLink own index RX10 ∈ sy_W) (hk : sy_k E (sy_n E) = 9) (hr : ∀ j, sy_r E (sy_n E) j = none) (hz : S (sy_n E) = fun _ => 0) (hcells : cells + 1 ≤ R.cells) (hslots : slots + 11 ≤ R.slots) (hdg : decode cc pc = .ok (.new index, 3))
    (kk : ∀ (q : Nat) (H1 : Heap), sy_Wd (sy_ne E q) A s S H1 locs → W p l e R s m args below meth c H1 locs (cells + 1) (slots + 11) Q (F0 m (pc + 3) ls (.ref q :: rest))) : W p l e R s m args below meth c H locs cells slots Q (F0 m pc ls rest) :=
  sy_newo fx hA X hcl (ci := 9) rfl inW10 tyX10 tyX10_ok w1 wm_16 wm_17 dv_9 (fun q => by rw [hz, sy_en9 (E := sy_ne E q) hk, fv_9 (E := sy_ne E q) hr]) hcells hslots hdg kk
theorem sy_new10 (fx : CallFix p m c cc nL s args sy_W own) (hA : ∀ q, s.heap.size ≤ q → A q) (X : sy_Wd E A s S H locs) (hcl : sy_clo E) {index : Nat} (w1 : Cond.classLink own index RX11 ∈ sy_W) (hk : sy_k E (sy_n E) = 10) (hr : ∀ j, sy_r E (sy_n E) j = none) (hz : S (sy_n E) = fun _ => 0) (hcells : cells + 1 ≤ R.cells) (hslots : slots + 16 ≤ R.slots) (hdg : decode cc pc = .ok (.new index, 3))
    (kk : ∀ (q : Nat) (H1 : Heap), sy_Wd (sy_ne E q) A s S H1 locs → W p l e R s m args below meth c H1 locs (cells + 1) (slots + 16) Q (F0 m (pc + 3) ls (.ref q :: rest))) : W p l e R s m args below meth c H locs cells slots Q (F0 m pc ls rest) :=
  sy_newo fx hA X hcl (ci := 10) rfl inW11 tyX11 tyX11_ok w1 wm_1 wm_2 dv_10 (fun q => by rw [hz, sy_en10 (E := sy_ne E q) hk, fv_10 (E := sy_ne E q) hr]) hcells hslots hdg kk
theorem sy_new11 (fx : CallFix p m c cc nL s args sy_W own) (hA : ∀ q, s.heap.size ≤ q → A q) (X : sy_Wd E A s S H locs) (hcl : sy_clo E) {index : Nat} (w1 : Cond.classLink own index RX12 ∈ sy_W) (hk : sy_k E (sy_n E) = 11) (hr : ∀ j, sy_r E (sy_n E) j = none) (hz : S (sy_n E) = fun _ => 0) (hcells : cells + 1 ≤ R.cells) (hslots : slots + 35 ≤ R.slots) (hdg : decode cc pc = .ok (.new index, 3))
    (kk : ∀ (q : Nat) (H1 : Heap), sy_Wd (sy_ne E q) A s S H1 locs → W p l e R s m args below meth c H1 locs (cells + 1) (slots + 35) Q (F0 m (pc + 3) ls (.ref q :: rest))) : W p l e R s m args below meth c H locs cells slots Q (F0 m pc ls rest) :=
  sy_newo fx hA X hcl (ci := 11) rfl inW12 tyX12 tyX12_ok w1 wm_4 wm_5 dv_11 (fun q => by rw [hz, sy_en11 (E := sy_ne E q) hk, fv_11 (E := sy_ne E q) hr]) hcells hslots hdg kk
end SYO
/-- references while an object at k makes others: its own fields so far, an array's places so far, all other cells up to n -/
def yT (E0 : sy_ET) (k : Nat) (F : Nat → Option Nat) (a : Nat) (G : Nat → Option Nat) (n : Nat) : Nat → Nat → Option Nat := fun i x => if i = k then F x else if i = a then G x else if k < i ∧ i < n then yF i x else sy_r E0 i x
theorem yT_0 {E0 : sy_ET} {k : Nat} (h : ∀ j, sy_r E0 k j = none) : sy_r E0 = yT E0 k (fun _ => none) k (fun _ => none) (k + 1) := by
  funext i x
  unfold yT
  by_cases q : i = k
  · rw [if_pos q, q, h]
  · rw [if_neg q, if_neg q, if_neg (by omega)]
theorem yT_n {E0 : sy_ET} {k a n : Nat} {F G : Nat → Option Nat} (hr : ∀ i j, k ≤ i → sy_r E0 i j = none) (hk : k < n) (hK : yK n = 12 ∨ yK n = 13) : yT E0 k F a G n = yT E0 k F a G (n + 1) := by
  funext i x
  unfold yT
  by_cases q : i = k
  · rw [if_pos q, if_pos q]
  · rw [if_neg q, if_neg q]
    by_cases q2 : i = a
    · rw [if_pos q2, if_pos q2]
    · rw [if_neg q2, if_neg q2]
      by_cases q3 : i = n
      · subst q3
        rw [if_neg (by omega), if_pos (by omega), hr i x (by omega)]
        unfold yF
        rcases hK with z | z <;> rw [z] <;> rfl
      · by_cases q4 : k < i ∧ i < n
        · rw [if_pos q4, if_pos (by omega)]
        · rw [if_neg q4, if_neg (by omega)]
theorem yT_f {E0 : sy_ET} {k a n j v : Nat} {F G : Nat → Option Nat} : (fun i x => if i = k ∧ x = j then some v else yT E0 k F a G n i x) = yT E0 k (fun x => if x = j then some v else F x) a G n := by
  funext i x
  unfold yT
  by_cases q : i = k
  · by_cases q2 : x = j
    · rw [if_pos ⟨q, q2⟩, if_pos q]; exact (if_pos q2).symm
    · rw [if_neg (fun z => q2 z.2), if_pos q, if_pos q]; exact (if_neg q2).symm
  · rw [if_neg (fun z => q z.1), if_neg q, if_neg q]
theorem yT_g {E0 : sy_ET} {k a n j v : Nat} {F G : Nat → Option Nat} (ha : a ≠ k) : (fun i x => if i = a ∧ x = j then some v else yT E0 k F a G n i x) = yT E0 k F a (fun x => if x = j then some v else G x) n := by
  funext i x
  unfold yT
  by_cases q : i = a
  · have q0 : ¬ i = k := fun z => ha (q.symm.trans z)
    by_cases q2 : x = j
    · rw [if_pos ⟨q, q2⟩, if_neg q0, if_pos q]; exact (if_pos q2).symm
    · rw [if_neg (fun z => q2 z.2), if_neg q0, if_pos q, if_neg q0, if_pos q]; exact (if_neg q2).symm
  · rw [if_neg (fun z => q z.1), if_neg q, if_neg q]
/-- behind a constructor for the cells from n on -/
theorem yT_c {E0 E : sy_ET} {k a n n2 : Nat} {F G : Nat → Option Nat} (hE : sy_r E = yT E0 k F a G n) (hk : k < n) (ha : a < n) (h2 : n ≤ n2) : yR E n n2 = yT E0 k F a G n2 := by
  funext i x
  unfold yR
  rw [hE]
  unfold yT
  by_cases q : n ≤ i ∧ i < n2
  · rw [if_pos q, if_neg (by omega), if_neg (by omega), if_pos (by omega)]
  · rw [if_neg q]
    by_cases q1 : i = k
    · rw [if_pos q1, if_pos q1]
    · rw [if_neg q1, if_neg q1]
      by_cases q2 : i = a
      · rw [if_pos q2, if_pos q2]
      · rw [if_neg q2, if_neg q2]
        by_cases q3 : k < i ∧ i < n
        · rw [if_pos q3, if_pos (by omega)]
        · rw [if_neg q3, if_neg (by omega)]
/-- an array of skies begun, and full -/
theorem yT_a {E0 : sy_ET} {k n : Nat} {F G : Nat → Option Nat} (hr : ∀ i j, k ≤ i → sy_r E0 i j = none) (hk : k < n) : yT E0 k F k G n = yT E0 k F n (fun _ => none) (n + 1) := by
  funext i x
  unfold yT
  by_cases q : i = k
  · rw [if_pos q, if_pos q]
  · rw [if_neg q, if_neg q, if_neg q]
    by_cases q2 : i = n
    · subst q2
      rw [if_neg (by omega), if_pos rfl, hr i x (by omega)]
    · rw [if_neg q2]
      by_cases q3 : k < i ∧ i < n
      · rw [if_pos q3, if_pos (by omega)]
      · rw [if_neg q3, if_neg (by omega)]
theorem yT_e {E0 : sy_ET} {k a n : Nat} {F G : Nat → Option Nat} (ha : k < a ∧ a < n) (hG : ∀ x, G x = yF a x) : yT E0 k F a G n = yT E0 k F k G n := by
  funext i x
  unfold yT
  by_cases q : i = k
  · rw [if_pos q, if_pos q]
  · rw [if_neg q, if_neg q, if_neg q]
    by_cases q2 : i = a
    · rw [if_pos q2, if_pos (by omega), q2, hG]
    · rw [if_neg q2]
theorem yT_R {E0 : sy_ET} {k n : Nat} {F G : Nat → Option Nat} (hkn : k < n) (hF : ∀ x, F x = yF k x) : yT E0 k F k G n = yR E0 k n := by
  funext i x
  unfold yT yR
  by_cases q : i = k
  · rw [if_pos q, if_pos (by omega), q, hF]
  · rw [if_neg q, if_neg q]
    by_cases q2 : k < i ∧ i < n
    · rw [if_pos q2, if_pos (by omega)]
    · rw [if_neg q2, if_neg (by omega)]
