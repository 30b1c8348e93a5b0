/-! a loop, as often as it is given -/
def sy_fix {T : Type} (bot : T) (B : T → T) : Nat → T
  | 0 => bot
  | n + 1 => B (sy_fix bot B n)
def sy_F : Nat := 10000
def sy_max (x y : Int32) : Int32 := if x < y then y else x
def sy_min (x y : Int32) : Int32 := if y < x then y else x
def sy_abs (x : Int32) : Int32 := if 0 ≤ x then x else 0 - x
def sy_cp (S : sy_St) (a b : Nat) (sp dp n : Int32) : sy_St := sy_upA S b (va_cpy (S a) (S b) sp.toNatClampNeg dp.toNatClampNeg n.toNatClampNeg)
theorem sy_in_lt {i : Int32} {n : Nat} (h : sy_in i n) : i.toNatClampNeg < n := Nat.not_le.mp fun q => h (Or.inr q)
theorem sy_ne_toInt {x v : Int32} {n : Int} (h : ¬ x = v) (hv : v.toInt = n) : ¬ x.toInt = n := fun q => h (Int32.toInt_inj.mp (q.trans hv.symm))
theorem pn_0 : plainName yX0_add.cls = true := by decide +kernel
theorem pn_1 : plainName yX1_countSteps.cls = true := by decide +kernel
theorem pn_2 : plainName yX2_fewestPayments.cls = true := by decide +kernel
theorem pn_3 : plainName yX3_addPerson.cls = true := by decide +kernel
theorem pn_4 : plainName yX4_greatestCommonPart.cls = true := by decide +kernel
theorem pn_5 : plainName yX5_add.cls = true := by decide +kernel
theorem pn_6 : plainName yX6_add.cls = true := by decide +kernel
theorem pn_7 : plainName yX7_goOn.cls = true := by decide +kernel
theorem pn_8 : plainName yX8_add.cls = true := by decide +kernel
theorem pn_9 : plainName yX9_endRow.cls = true := by decide +kernel
theorem pn_10 : plainName yX10_bear.cls = true := by decide +kernel
theorem pn_11 : plainName yX11_chain.cls = true := by decide +kernel
theorem pn_12 : plainName yX12_areLevel.cls = true := by decide +kernel
