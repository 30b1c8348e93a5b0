/-! ===== a constructor by contract ===== -/
def sy_prC (E : sy_ET) (sz : Nat) (S : sy_St) : State → Prop := fun U => sy_pre E sz S U ∧ va_AO RX10 U
abbrev sy_rmC (f n mc ms : Nat) : Room := { frames := f, cells := mc, slots := ms, locals := n }
abbrev sy_QC (E : sy_ET) (A : Nat → Prop) (m : Nat) (rr : Nat → Nat → Option Nat) (Ps : sy_St → Prop) : Array Value → State → Outcome → State → Prop := va_Qv (fun u : sy_ET × sy_St => sy_Q E u.1 m rr ∧ Ps u.2) (fun u t => sy_pos u.1 A u.2 t) A
def sy_MC (l : Launch) (y : MethodName) (b : ByteArray) (n f ln mc ms : Nat) (av : List Value) (E : sy_ET) (S : sy_St) (m : Nat) (rr : Nat → Nat → Option Nat) (Ps : sy_St → Prop) : Prop :=
  ∀ sz : Nat, Met l y (sy_ws y b n none) (sy_rmC f ln mc ms) (va_Pc av (sy_prC E sz S)) (sy_QC E (va_A (sy_wl E S) sz) m rr Ps) mc ms (va_A (sy_wl E S) sz)
theorem sy_MC_of {l : Launch} {y : MethodName} {b : ByteArray} {n f ln mc ms : Nat} {av : List Value} {E : sy_ET} {S : sy_St} {m1 : Nat} {rr : Nat → Nat → Option Nat} {Ps : sy_St → Prop} (own : String) (hy : plainName y.cls = true) (ho : y.cls = own) (hyn : y.name = "<init>") (hn : (lg_sl av).length ≤ n)
    (k : ∀ (p : Program) (e : Env) (s : State) (m : MethodId) (args : Array Value) (below : List Frame) (meth : Method) (c : Code) (A : Nat → Prop) (ls : Array Slot), CallFix p m c b n s args sy_W own → meth.sig.returnType = none → meth.locks = false → meth.name = "<init>" → va_AO RX10 s → (∀ q, s.heap.size ≤ q → A q) → sy_Wd E A s S s.heap [] → lv_has ls n (lv_args 0 av) →
      W p l e (sy_rmC f ln mc ms) s m args below meth c s.heap [] 0 0 (MQ below (sy_QC E A m1 rr Ps) args s mc ms A) (F0 m 0 ls [])) : sy_MC l y b n f ln mc ms av E S m1 rr Ps := by
  intro sz
  refine Met.ofW (cc := b) (maxL := n) (ret := none) hy rfl ?_
  intro p e s m args below meth c s₁ B hml hv
  obtain ⟨rfl, ⟨hsz, hP, hK, hD0, hN⟩, hao⟩ := hv
  have hts := atoms_spec (ws := sy_ws y b n none) B.pre
  have hown : s.vm.findClass own = some m.cls := by rw [← ho]; exact findClass_of_methodNamed B.named
  have hin : meth.name = "<init>" := by rw [← hyn]; exact (name_of_methodNamed B.named B.method).1
  subst hsz
  have hD := hD0.self (sz := s.heap.size)
  rw [lg_entry_eq]
  exact k p e s m _ below meth c _ _ ⟨B.exec, B.bytes, hml, hown, fun w h => hts w (List.mem_cons_of_mem _ h)⟩ B.returns B.notSynchronized hin hao (fun q h => Or.inr h) ⟨⟨hK, hN⟩, hP, hD, va_S.rf⟩ (lv_entry av hn)
/-- what a constructor brings -/
def sy_cI (y : MethodName) (b : ByteArray) (n nA : Nat) : Prop := Cond.instanceMethod y ∈ sy_W ∧ Cond.initialized y.cls ∈ sy_W ∧ Cond.code y b n none ∈ sy_W ∧ y.name = "<init>" ∧ (y.cls ≠ "java/lang/invoke/MethodHandle" ∧ y.cls ≠ "java/lang/invoke/VarHandle" ∧ (parseMethodDescriptor y.desc).map (fun d => d.parameters.length) = some nA)
section SYN
variable {p : Program} {l : Launch} {e : Env} {R : Room} {s : State} {m : MethodId} {args : Array Value} {below : List Frame} {meth : Method} {c : Code} {H : Heap} {locs : List Loc} {cells slots : Nat} {Q : State → Prop}
variable {cc : ByteArray} {pc nL : Nat} {ls : Array Slot} {rest : List Value} {A : Nat → Prop} {E : sy_ET} {S : sy_St} {own : String}
theorem sy_prU (hao : va_AO RX10 s) (X : sy_Wd E A s S H locs) {U : State} (hU : U.heap = H) (hW : s.WarmedH U.vm) : sy_prC E H.size S U := ⟨sy_preU X hU hW, va_AO.moved hW.alike hao⟩
theorem sy_blindC {av : List Value} {sz : Nat} : FrameBlind (va_Pc av (sy_prC E sz S)) := fun a U g mk q => by
  obtain ⟨q0, ⟨q1, qP, qK, qD, qN⟩, qa⟩ := q
  exact ⟨q0, ⟨q1, qP, va_K.moved (u := U) (U := U.calling g mk a) (Vm.Alike.refl U.vm) qK, qD, sy_Nw.same (u := U) (U := U.calling g mk a) rfl qN⟩, va_AO.moved (u := U) (U := U.calling g mk a) (Vm.Alike.refl U.vm) qa⟩
theorem sy_goodC {y : MethodName} {b : ByteArray} {n : Nat} (m5 : Cond.code y b n none ∈ sy_W) : GoodIn sy_W (sy_ws y b n none) := fun w hw => by
  have h : w ∈ sy_W := by
    rcases List.mem_cons.mp hw with rfl | h
    · exact m5
    · exact h
  exact ⟨h, sy_mem_good h⟩
theorem sy_Wd_Q {E1 : sy_ET} {m1 : Nat} {rr : Nat → Nat → Option Nat} {S1 : sy_St} {H1 : Heap} {locs1 : List Loc} {A1 : Nat → Prop} (X : sy_Wd E A s S H locs) (hq : sy_Q E E1 m1 rr) (hP : va_P (sy_D E1) vwCl (sy_wl E1 S1) H1) (hD : va_D A1 (sy_wl E1 S1)) (hF : ∀ q, A1 q → A q) (hS : va_S A s.heap H1 locs1) : sy_Wd E1 A s S1 H1 locs1 := by
  obtain ⟨h1, h2, h3, h4, h5, h6, h7, h8, h9, h10⟩ := hq
  refine ⟨⟨?_, X.1.2⟩, hP, hD.weaken (fun _ _ _ h => hF _ h), hS⟩
  have : sy_ty E1 = sy_ty E := by unfold sy_ty; rw [h5, h6, h7]
  rw [this, h4]
  exact X.1.1
/-- a constructor is called -/
theorem sy_cc (fx : CallFix p m c cc nL s args sy_W own) (hA : ∀ q, s.heap.size ≤ q → A q) (hao : va_AO RX10 s) (X : sy_Wd E A s S H locs) (hsz : ls.size = nL) {a : Nat} {As : List Value} {y : MethodName} {b : ByteArray} {n f ln mc ms m1 : Nat} {rr : Nat → Nat → Option Nat} {Ps : sy_St → Prop} (hM : sy_MC l y b n f ln mc ms (.ref a :: As) E S m1 rr Ps) {index nA : Nat} (hcv : sy_cI y b n nA) (hlk : Cond.methodLink own index y ∈ sy_W) (hR : f + 1 ≤ R.frames ∧ 8 + (n + 11) + ln ≤ R.locals ∧ cells + mc ≤ R.cells ∧ slots + ms ≤ R.slots) (hn : As.length = nA) {st : List Value} (hst : st = As.reverse ++ .ref a :: rest) (hroom : (rest.map fun v => v.category).sum ≤ 8) (hdg : decode cc pc = .ok (.invokespecial index, 3))
    (kk : ∀ (E1 : sy_ET) (S1 : sy_St) (H1 : Heap) (locs1 : List Loc), sy_Q E E1 m1 rr → Ps S1 → sy_Wd E1 A s S1 H1 locs1 → W p l e R s m args below meth c H1 locs1 (cells + mc) (slots + ms) Q (F0 m (pc + 3) ls rest)) : W p l e R s m args below meth c H locs cells slots Q (F0 m pc ls st) := by
  subst hst
  have hF := sy_freeA hA X
  obtain ⟨m2, m4, m5, hyn, hd⟩ := hcv
  refine va_callv (va_runI (rest := rest) fx (hM H.size) (cwI nA fx.2.2.2.2 (sy_goodC m5) rfl rfl rfl (fx.2.2.2.2 _ m4) (fx.2.2.2.2 _ hlk) (fx.2.2.2.2 _ m2) hyn hd ⟨hR.1, hR.2.1⟩) ⟨sy_blindC, fun U hU hW => ⟨rfl, sy_prU hao X hU hW⟩⟩ rfl hn hsz rfl (lv_room hroom) hdg hR.2.2) X.2.2.2 (fun q _ h => hF q h) hF (fun u t H1 locs1 ht hvm hw hB hz1 hk1 hS1 => ?_)
  obtain ⟨hP1, hK1, hD1⟩ := hB
  exact kk u.1 u.2 H1 locs1 hw.1 hw.2 (sy_Wd_Q X hw.1 (by rw [← ht]; exact hP1) hD1 hF hS1)
/-- a private one, of a nest mate -/
theorem sy_ccN (fx : CallFix p m c cc nL s args sy_W own) (hA : ∀ q, s.heap.size ≤ q → A q) (hao : va_AO RX10 s) (X : sy_Wd E A s S H locs) (hsz : ls.size = nL) {a : Nat} {As : List Value} {y : MethodName} {b : ByteArray} {n f ln mc ms m1 : Nat} {rr : Nat → Nat → Option Nat} {Ps : sy_St → Prop} (hM : sy_MC l y b n f ln mc ms (.ref a :: As) E S m1 rr Ps) {index nA : Nat} {host : String} (hcv : sy_cI y b n nA) (hnw : va_Nw (.methodLinkNest own index y host) s) (hR : f + 1 ≤ R.frames ∧ 8 + (n + 11) + ln ≤ R.locals ∧ cells + mc ≤ R.cells ∧ slots + ms ≤ R.slots) (hn : As.length = nA) {st : List Value} (hst : st = As.reverse ++ .ref a :: rest) (hroom : (rest.map fun v => v.category).sum ≤ 8) (hdg : decode cc pc = .ok (.invokespecial index, 3))
    (kk : ∀ (E1 : sy_ET) (S1 : sy_St) (H1 : Heap) (locs1 : List Loc), sy_Q E E1 m1 rr → Ps S1 → sy_Wd E1 A s S1 H1 locs1 → W p l e R s m args below meth c H1 locs1 (cells + mc) (slots + ms) Q (F0 m (pc + 3) ls rest)) : W p l e R s m args below meth c H locs cells slots Q (F0 m pc ls st) := by
  subst hst
  have hF := sy_freeA hA X
  obtain ⟨m2, m4, m5, hyn, hd⟩ := hcv
  refine va_callv (va_runIN (rest := rest) fx (hM H.size) ⟨va_cnB nA fx.2.2.2.2 (sy_goodC m5) rfl rfl rfl hnw (fx.2.2.2.2 _ m4) hd ⟨hR.1, hR.2.1⟩, hyn, fx.2.2.2.2 _ m2⟩ ⟨sy_blindC, fun U hU hW => ⟨rfl, sy_prU hao X hU hW⟩⟩ rfl hn hsz rfl (lv_room hroom) hdg hR.2.2) X.2.2.2 (fun q _ h => hF q h) hF (fun u t H1 locs1 ht hvm hw hB hz1 hk1 hS1 => ?_)
  obtain ⟨hP1, hK1, hD1⟩ := hB
  exact kk u.1 u.2 H1 locs1 hw.1 hw.2 (sy_Wd_Q X hw.1 (by rw [← ht]; exact hP1) hD1 hF hS1)
/-- its end -/
theorem sy_cret (fx : CallFix p m c cc nL s args sy_W own) {E0 : sy_ET} {m1 mc ms : Nat} {rr : Nat → Nat → Option Nat} {Ps : sy_St → Prop} (X : sy_Wd E A s S H locs) (hr : meth.sig.returnType = none) (hlk : meth.locks = false) (hq : sy_Q E0 E m1 rr) (hp : Ps S) (hc : cells ≤ mc) (hs : slots ≤ ms) (hdg : decode cc pc = .ok (.return_, 1)) : W p l e R s m args below meth c H locs cells slots (MQ below (sy_QC E0 A m1 rr Ps) args s mc ms A) (F0 m pc ls []) := by
  obtain ⟨hx, hb, hml, hown, hts⟩ := fx
  obtain ⟨⟨hK, hN⟩, hP, hD, hS⟩ := X
  refine W.widen hc hs ?_
  exact W.vret hx hb hr (fun t ht hW => ⟨⟨(E, S), rfl, ⟨hq, hp⟩, by rw [ht]; exact hP, va_K.moved hW.alike hK, hD⟩, hS.F ht⟩) hS.2.2 hdg hlk
end SYN
