theorem lk_X5_all_1 : Cond.fieldLink RX5 31 "ParishCoat$Told" "families" "I" ∈ wsX5_all := List.mem_of_getElem? (i := 1) rfl
theorem lk_X5_all_2 : Cond.static yX8_bit ∈ wsX5_all := List.mem_of_getElem? (i := 2) rfl
theorem lk_X5_all_3 : Cond.initialized RX8 ∈ wsX5_all := List.mem_of_getElem? (i := 3) rfl
theorem in_X5_all_X5 : ∀ w ∈ u_ws RX5 TX5 8, w ∈ wsX5_all := fun _ h => List.mem_cons_of_mem _ (List.mem_append_right _ h)
def f_X5_all (v_this_families : Int32) : Option (Int32) := (f_X8_bit v_this_families).bind fun y1 => some ((y1 - 1))
def w_X5_all (cyI cyZ cyW : ClassId) (a_this : Nat) (v_this_families : Int32) (v_this_quota : Int32) (v_this_coldCount : Int32) (a_this_kinds : Nat) (a_this_warmths : Nat) (a_this_prices : Nat) (a_this_favourers : Nat) (a_this_colds : Nat) : va_W := [(a_this, .inr (5, [.int v_this_families, .int v_this_quota, .int v_this_coldCount, .ref a_this_kinds, .ref a_this_warmths, .ref a_this_prices, .ref a_this_favourers, .ref a_this_colds]))]
set_option maxHeartbeats 4000000 in
set_option maxRecDepth 100000 in
theorem c_X5_all (l : Launch) (D : va_G) (cyI cyZ cyW : ClassId) (a_this : Nat) (v_this_families : Int32) (v_this_quota : Int32) (v_this_coldCount : Int32) (a_this_kinds : Nat) (a_this_warmths : Nat) (a_this_prices : Nat) (a_this_favourers : Nat) (a_this_colds : Nat) (res : Int32) (hf : f_X5_all v_this_families = some res) : ∀ sz, Met l yX5_all wsX5_all { frames := 1, cells := 0, slots := 0, locals := 20 } (PCx D (tyG cyI cyZ cyW) [.ref a_this] (w_X5_all cyI cyZ cyW a_this v_this_families v_this_quota v_this_coldCount a_this_kinds a_this_warmths a_this_prices a_this_favourers a_this_colds) sz) (QI D (tyG cyI cyZ cyW) (w_X5_all cyI cyZ cyW a_this v_this_families v_this_quota v_this_coldCount a_this_kinds a_this_warmths a_this_prices a_this_favourers a_this_colds) sz res (w_X5_all cyI cyZ cyW a_this v_this_families v_this_quota v_this_coldCount a_this_kinds a_this_warmths a_this_prices a_this_favourers a_this_colds)) 0 0 (va_A (w_X5_all cyI cyZ cyW a_this v_this_families v_this_quota v_this_coldCount a_this_kinds a_this_warmths a_this_prices a_this_favourers a_this_colds) sz) := by
  intro sz
  refine met_of (cc := cX5_all) (maxL := 1) (ret := (some .int)) (lv0 := [(0, .ref a_this)]) (by decide) rfl ⟨(Nat.le_of_ble_eq_true rfl), rfl⟩ ?_
  intro p e s m below meth c C hr hlk hnm hsz
  subst hsz
  have C : CX p s m _ c 1 cX5_all RX5 wsX5_all D (tyG cyI cyZ cyW) _ := C
  refine r_aload_n C dX5_all_0 rfl 0 rfl ?_
  refine r_get C in_X5_all_X5 0 rfl rfl 0 (by decide) lk_X5_all_1 rfl rfl dX5_all_1 ?_
  obtain ⟨y1, hy2, hf⟩ := bd_some hf
  refine r_roSN_i (As := [.int v_this_families]) (rest := []) C (c_X8_bit l D cyI cyZ cyW v_this_families y1 hy2) gX5_all_X8_bit_n43 8 rfl lk_X5_all_3 lk_X5_all_2 rfl hyS_X8_bit ⟨rfl, rfl, (Nat.le_of_ble_eq_true rfl), (Nat.le_of_ble_eq_true rfl)⟩ rfl [] rfl rfl rfl (Nat.le_of_ble_eq_true rfl) ⟨Nat.zero_le _, Nat.zero_le _⟩ dX5_all_4 ?_
  refine r_iconst C 1 dX5_all_7 (by decide) ?_
  refine r_isub C dX5_all_8 ?_
  rw [← Option.some.inj hf]
  exact r_iret C hr hlk dX5_all_9

theorem lk_X5_coldOn_1 : Cond.fieldLink RX5 34 "ParishCoat$Told" "coldCount" "I" ∈ wsX5_coldOn := List.mem_of_getElem? (i := 1) rfl
theorem lk_X5_coldOn_2 : Cond.fieldLink RX5 28 "ParishCoat$Told" "colds" "[I" ∈ wsX5_coldOn := List.mem_of_getElem? (i := 2) rfl
theorem in_X5_coldOn_X5 : ∀ w ∈ u_ws RX5 TX5 8, w ∈ wsX5_coldOn := fun _ h => List.mem_cons_of_mem _ (List.mem_append_right _ h)
def f_X5_coldOn (v_this_coldCount : Int32) (v_this_colds : Nat → Int32) (x1 : Int32) : Option (Int32) := if v_this_coldCount ≤ 0 then (some (5)) else (if x1 < 0 then (some (5)) else (nz_ v_this_coldCount (gd_ (x1 - x1 / v_this_coldCount * v_this_coldCount) 6 (some ((v_this_colds (Int32.toNatClampNeg (x1 - x1 / v_this_coldCount * v_this_coldCount))))))))
def w_X5_coldOn (cyI cyZ cyW : ClassId) (a_this : Nat) (v_this_families : Int32) (v_this_quota : Int32) (v_this_coldCount : Int32) (a_this_kinds : Nat) (a_this_warmths : Nat) (a_this_prices : Nat) (a_this_favourers : Nat) (a_this_colds : Nat) (v_this_colds : Nat → Int32) : va_W := [(a_this, .inr (5, [.int v_this_families, .int v_this_quota, .int v_this_coldCount, .ref a_this_kinds, .ref a_this_warmths, .ref a_this_prices, .ref a_this_favourers, .ref a_this_colds])), (a_this_colds, .inl (cyI, 6, .inl v_this_colds))]
set_option maxHeartbeats 4000000 in
set_option maxRecDepth 100000 in
theorem c_X5_coldOn (l : Launch) (D : va_G) (cyI cyZ cyW : ClassId) (a_this : Nat) (v_this_families : Int32) (v_this_quota : Int32) (v_this_coldCount : Int32) (a_this_kinds : Nat) (a_this_warmths : Nat) (a_this_prices : Nat) (a_this_favourers : Nat) (a_this_colds : Nat) (v_this_colds : Nat → Int32) (x1 : Int32) (res : Int32) (hf : f_X5_coldOn v_this_coldCount v_this_colds x1 = some res) : ∀ sz, Met l yX5_coldOn wsX5_coldOn { frames := 0, cells := 0, slots := 0, locals := 0 } (PCx D (tyG cyI cyZ cyW) [.ref a_this, .int x1] (w_X5_coldOn cyI cyZ cyW a_this v_this_families v_this_quota v_this_coldCount a_this_kinds a_this_warmths a_this_prices a_this_favourers a_this_colds v_this_colds) sz) (QI D (tyG cyI cyZ cyW) (w_X5_coldOn cyI cyZ cyW a_this v_this_families v_this_quota v_this_coldCount a_this_kinds a_this_warmths a_this_prices a_this_favourers a_this_colds v_this_colds) sz res (w_X5_coldOn cyI cyZ cyW a_this v_this_families v_this_quota v_this_coldCount a_this_kinds a_this_warmths a_this_prices a_this_favourers a_this_colds v_this_colds)) 0 0 (va_A (w_X5_coldOn cyI cyZ cyW a_this v_this_families v_this_quota v_this_coldCount a_this_kinds a_this_warmths a_this_prices a_this_favourers a_this_colds v_this_colds) sz) := by
  intro sz
  refine met_of (cc := cX5_coldOn) (maxL := 2) (ret := (some .int)) (lv0 := [(0, .ref a_this), (1, .int x1)]) (by decide) rfl ⟨(Nat.le_of_ble_eq_true rfl), rfl⟩ ?_
  intro p e s m below meth c C hr hlk hnm hsz
  subst hsz
  have C : CX p s m _ c 2 cX5_coldOn RX5 wsX5_coldOn D (tyG cyI cyZ cyW) _ := C
  refine r_aload_n C dX5_coldOn_0 rfl 0 rfl ?_
  refine r_get C in_X5_coldOn_X5 0 rfl rfl 2 (by decide) lk_X5_coldOn_1 rfl rfl dX5_coldOn_1 ?_
  refine r_if_le C 25 dX5_coldOn_4 (by decide) hf (fun hf => ?_) (fun hf => ?_)
  · refine r_iconst C 5 dX5_coldOn_25 (by decide) ?_
    rw [← Option.some.inj hf]
    exact r_iret C hr hlk dX5_coldOn_26
  · refine r_iload_n C dX5_coldOn_7 rfl 1 rfl ?_
    refine r_if_lt C 25 dX5_coldOn_8 (by decide) hf (fun hf => ?_) (fun hf => ?_)
    · refine r_iconst C 5 dX5_coldOn_25 (by decide) ?_
      rw [← Option.some.inj hf]
      exact r_iret C hr hlk dX5_coldOn_26
    · refine r_aload_n C dX5_coldOn_11 rfl 0 rfl ?_
      refine r_get C in_X5_coldOn_X5 0 rfl rfl 7 (by decide) lk_X5_coldOn_2 rfl rfl dX5_coldOn_12 ?_
      refine r_iload_n C dX5_coldOn_15 rfl 1 rfl ?_
      refine r_aload_n C dX5_coldOn_16 rfl 0 rfl ?_
      refine r_get C in_X5_coldOn_X5 0 rfl rfl 2 (by decide) lk_X5_coldOn_1 rfl rfl dX5_coldOn_17 ?_
      obtain ⟨hz1, hf⟩ := nz_some hf
      refine r_irem C dX5_coldOn_20 hz1 ?_
      obtain ⟨hi2, hf⟩ := gd_some hf
      refine r_iald C 1 0 rfl rfl hi2 dX5_coldOn_21 ?_
      refine r_goto C 26 dX5_coldOn_22 (by decide) ?_
      rw [← Option.some.inj hf]
      exact r_iret C hr hlk dX5_coldOn_26

theorem lk_X5_weightOf_1 : Cond.fieldLink RX5 15 "ParishCoat$Told" "kinds" "[I" ∈ wsX5_weightOf := List.mem_of_getElem? (i := 1) rfl
theorem in_X5_weightOf_X5 : ∀ w ∈ u_ws RX5 TX5 8, w ∈ wsX5_weightOf := fun _ h => List.mem_cons_of_mem _ (List.mem_append_right _ h)
def f_X5_weightOf (v_this_kinds : Nat → Int32) (x1 : Int32) (x2 : Int32) : Option (Int32) := gd_ x1 7 (if (v_this_kinds (Int32.toNatClampNeg x1)) = 1 then (if x2 = 0 then (some (1)) else (some (2))) else (if (v_this_kinds (Int32.toNatClampNeg x1)) = 2 then (some (2)) else (if (v_this_kinds (Int32.toNatClampNeg x1)) = 3 then (if x2 = 0 then (some (1)) else (some (0))) else (some (1)))))
def w_X5_weightOf (cyI cyZ cyW : ClassId) (a_this : Nat) (v_this_families : Int32) (v_this_quota : Int32) (v_this_coldCount : Int32) (a_this_kinds : Nat) (a_this_warmths : Nat) (a_this_prices : Nat) (a_this_favourers : Nat) (a_this_colds : Nat) (v_this_kinds : Nat → Int32) : va_W := [(a_this, .inr (5, [.int v_this_families, .int v_this_quota, .int v_this_coldCount, .ref a_this_kinds, .ref a_this_warmths, .ref a_this_prices, .ref a_this_favourers, .ref a_this_colds])), (a_this_kinds, .inl (cyI, 7, .inl v_this_kinds))]
set_option maxHeartbeats 4000000 in
set_option maxRecDepth 100000 in
theorem c_X5_weightOf (l : Launch) (D : va_G) (cyI cyZ cyW : ClassId) (a_this : Nat) (v_this_families : Int32) (v_this_quota : Int32) (v_this_coldCount : Int32) (a_this_kinds : Nat) (a_this_warmths : Nat) (a_this_prices : Nat) (a_this_favourers : Nat) (a_this_colds : Nat) (v_this_kinds : Nat → Int32) (x1 : Int32) (x2 : Int32) (res : Int32) (hf : f_X5_weightOf v_this_kinds x1 x2 = some res) : ∀ sz, Met l yX5_weightOf wsX5_weightOf { frames := 0, cells := 0, slots := 0, locals := 0 } (PCx D (tyG cyI cyZ cyW) [.ref a_this, .int x1, .int x2] (w_X5_weightOf cyI cyZ cyW a_this v_this_families v_this_quota v_this_coldCount a_this_kinds a_this_warmths a_this_prices a_this_favourers a_this_colds v_this_kinds) sz) (QI D (tyG cyI cyZ cyW) (w_X5_weightOf cyI cyZ cyW a_this v_this_families v_this_quota v_this_coldCount a_this_kinds a_this_warmths a_this_prices a_this_favourers a_this_colds v_this_kinds) sz res (w_X5_weightOf cyI cyZ cyW a_this v_this_families v_this_quota v_this_coldCount a_this_kinds a_this_warmths a_this_prices a_this_favourers a_this_colds v_this_kinds)) 0 0 (va_A (w_X5_weightOf cyI cyZ cyW a_this v_this_families v_this_quota v_this_coldCount a_this_kinds a_this_warmths a_this_prices a_this_favourers a_this_colds v_this_kinds) sz) := by
  intro sz
  refine met_of (cc := cX5_weightOf) (maxL := 3) (ret := (some .int)) (lv0 := [(0, .ref a_this), (1, .int x1), (2, .int x2)]) (by decide) rfl ⟨(Nat.le_of_ble_eq_true rfl), rfl⟩ ?_
  intro p e s m below meth c C hr hlk hnm hsz
  subst hsz
  have C : CX p s m _ c 3 cX5_weightOf RX5 wsX5_weightOf D (tyG cyI cyZ cyW) _ := C
  refine r_aload_n C dX5_weightOf_0 rfl 0 rfl ?_
  refine r_get C in_X5_weightOf_X5 0 rfl rfl 3 (by decide) lk_X5_weightOf_1 rfl rfl dX5_weightOf_1 ?_
  refine r_iload_n C dX5_weightOf_4 rfl 1 rfl ?_
  obtain ⟨hi1, hf⟩ := gd_some hf
  refine r_iald C 1 0 rfl rfl hi1 dX5_weightOf_5 ?_
  rcases sw_ hf with ⟨hc2, hf⟩ | ⟨hc2, hf⟩
  · refine r_tableIn C 32 dX5_weightOf_6 (by rw [hc2]; decide) (by rw [hc2]; decide) (by rw [hc2]; rfl) (by decide) ?_
    refine r_iload_n C dX5_weightOf_32 rfl 2 rfl ?_
    refine r_if_eq C 40 dX5_weightOf_33 (by decide) hf (fun hf => ?_) (fun hf => ?_)
    · refine r_iconst C 1 dX5_weightOf_40 (by decide) ?_
      rw [← Option.some.inj hf]
      exact r_iret C hr hlk dX5_weightOf_41
    · refine r_iconst C 2 dX5_weightOf_36 (by decide) ?_
      refine r_goto C 41 dX5_weightOf_37 (by decide) ?_
      rw [← Option.some.inj hf]
      exact r_iret C hr hlk dX5_weightOf_41
  rcases sw_ hf with ⟨hc3, hf⟩ | ⟨hc3, hf⟩
  · refine r_tableIn C 42 dX5_weightOf_6 (by rw [hc3]; decide) (by rw [hc3]; decide) (by rw [hc3]; rfl) (by decide) ?_
    refine r_iconst C 2 dX5_weightOf_42 (by decide) ?_
    rw [← Option.some.inj hf]
    exact r_iret C hr hlk dX5_weightOf_43
  rcases sw_ hf with ⟨hc4, hf⟩ | ⟨hc4, hf⟩
  · refine r_tableIn C 44 dX5_weightOf_6 (by rw [hc4]; decide) (by rw [hc4]; decide) (by rw [hc4]; rfl) (by decide) ?_
    refine r_iload_n C dX5_weightOf_44 rfl 2 rfl ?_
    refine r_if_eq C 52 dX5_weightOf_45 (by decide) hf (fun hf => ?_) (fun hf => ?_)
    · refine r_iconst C 1 dX5_weightOf_52 (by decide) ?_
      rw [← Option.some.inj hf]
      exact r_iret C hr hlk dX5_weightOf_53
    · refine r_iconst C 0 dX5_weightOf_48 (by decide) ?_
      refine r_goto C 53 dX5_weightOf_49 (by decide) ?_
      rw [← Option.some.inj hf]
      exact r_iret C hr hlk dX5_weightOf_53
  have hc2 := ne_toInt hc2 (z := 1) (by decide)
  have hc3 := ne_toInt hc3 (z := 2) (by decide)
  have hc4 := ne_toInt hc4 (z := 3) (by decide)
  refine r_tableOut C 54 dX5_weightOf_6 (by omega) (by decide) ?_
  refine r_iconst C 1 dX5_weightOf_54 (by decide) ?_
  rw [← Option.some.inj hf]
  exact r_iret C hr hlk dX5_weightOf_55

theorem lk_X5_weightOfSet_1 : Cond.fieldLink RX5 31 "ParishCoat$Told" "families" "I" ∈ wsX5_weightOfSet := List.mem_of_getElem? (i := 1) rfl
theorem lk_X5_weightOfSet_2 : Cond.static yX8_holds ∈ wsX5_weightOfSet := List.mem_of_getElem? (i := 2) rfl
theorem lk_X5_weightOfSet_3 : Cond.initialized RX8 ∈ wsX5_weightOfSet := List.mem_of_getElem? (i := 3) rfl
theorem in_X5_weightOfSet_X5 : ∀ w ∈ u_ws RX5 TX5 8, w ∈ wsX5_weightOfSet := fun _ h => List.mem_cons_of_mem _ (List.mem_append_right _ h)
theorem hyV_X8_holds : yX8_holds.cls = RX8 ∧ yX8_holds.cls ≠ "java/lang/invoke/MethodHandle" ∧ yX8_holds.cls ≠ "java/lang/invoke/VarHandle" ∧ (parseMethodDescriptor yX8_holds.desc).map (fun d => d.parameters.length) = some 2 := by decide +kernel
theorem hyS_X8_holds : yX8_holds.cls ≠ "java/lang/invoke/MethodHandle" ∧ yX8_holds.cls ≠ "java/lang/invoke/VarHandle" ∧ (parseMethodDescriptor yX8_holds.desc).map (fun d => d.parameters.length) = some 2 := by decide +kernel
theorem hyV_X5_weightOf : yX5_weightOf.cls = RX5 ∧ yX5_weightOf.cls ≠ "java/lang/invoke/MethodHandle" ∧ yX5_weightOf.cls ≠ "java/lang/invoke/VarHandle" ∧ (parseMethodDescriptor yX5_weightOf.desc).map (fun d => d.parameters.length) = some 2 := by decide +kernel
theorem hyS_X5_weightOf : yX5_weightOf.cls ≠ "java/lang/invoke/MethodHandle" ∧ yX5_weightOf.cls ≠ "java/lang/invoke/VarHandle" ∧ (parseMethodDescriptor yX5_weightOf.desc).map (fun d => d.parameters.length) = some 2 := by decide +kernel
def f_X5_weightOfSet_b33 (v_this_families : Int32) (v_this_kinds : Nat → Int32) (k_5 : Int32 → Int32 → Int32 → Int32 → Option (Int32)) (x1 : Int32) (x2 : Int32) (x3 : Int32) (x4 : Int32) : Option (Int32) := k_5 x1 x2 x3 (x4 + 1)
def f_X5_weightOfSet_s5 (v_this_families : Int32) (v_this_kinds : Nat → Int32) (k_5 : Int32 → Int32 → Int32 → Int32 → Option (Int32)) (x1 : Int32) (x2 : Int32) (x3 : Int32) (x4 : Int32) : Option (Int32) := if v_this_families ≤ x4 then (some (x3)) else ((f_X8_holds x1 x4).bind fun y1 => if y1 = 0 then (f_X5_weightOfSet_b33 v_this_families v_this_kinds k_5 x1 x2 x3 x4) else ((f_X5_weightOf v_this_kinds x4 x2).bind fun y3 => f_X5_weightOfSet_b33 v_this_families v_this_kinds k_5 x1 x2 (x3 + y3) x4))
def f_X5_weightOfSet_b5 (v_this_families : Int32) (v_this_kinds : Nat → Int32) (n : Nat) : Int32 → Int32 → Int32 → Int32 → Option (Int32) := it_ (f_X5_weightOfSet_s5 v_this_families v_this_kinds ) (fun _ _ _ _ => none) n
def f_X5_weightOfSet (v_this_families : Int32) (v_this_kinds : Nat → Int32) (x1 : Int32) (x2 : Int32) : Option (Int32) := f_X5_weightOfSet_b5 v_this_families v_this_kinds 5000 x1 x2 0 0
def w_X5_weightOfSet (cyI cyZ cyW : ClassId) (a_this : Nat) (v_this_families : Int32) (v_this_quota : Int32) (v_this_coldCount : Int32) (a_this_kinds : Nat) (a_this_warmths : Nat) (a_this_prices : Nat) (a_this_favourers : Nat) (a_this_colds : Nat) (v_this_kinds : Nat → Int32) : va_W := [(a_this, .inr (5, [.int v_this_families, .int v_this_quota, .int v_this_coldCount, .ref a_this_kinds, .ref a_this_warmths, .ref a_this_prices, .ref a_this_favourers, .ref a_this_colds])), (a_this_kinds, .inl (cyI, 7, .inl v_this_kinds))]
set_option maxHeartbeats 4000000 in
set_option maxRecDepth 100000 in
theorem c_X5_weightOfSet (l : Launch) (D : va_G) (cyI cyZ cyW : ClassId) (a_this : Nat) (v_this_families : Int32) (v_this_quota : Int32) (v_this_coldCount : Int32) (a_this_kinds : Nat) (a_this_warmths : Nat) (a_this_prices : Nat) (a_this_favourers : Nat) (a_this_colds : Nat) (v_this_kinds : Nat → Int32) (x1 : Int32) (x2 : Int32) (res : Int32) (hf : f_X5_weightOfSet v_this_families v_this_kinds x1 x2 = some res) : ∀ sz, Met l yX5_weightOfSet wsX5_weightOfSet { frames := 1, cells := 0, slots := 0, locals := 22 } (PCx D (tyG cyI cyZ cyW) [.ref a_this, .int x1, .int x2] (w_X5_weightOfSet cyI cyZ cyW a_this v_this_families v_this_quota v_this_coldCount a_this_kinds a_this_warmths a_this_prices a_this_favourers a_this_colds v_this_kinds) sz) (QI D (tyG cyI cyZ cyW) (w_X5_weightOfSet cyI cyZ cyW a_this v_this_families v_this_quota v_this_coldCount a_this_kinds a_this_warmths a_this_prices a_this_favourers a_this_colds v_this_kinds) sz res (w_X5_weightOfSet cyI cyZ cyW a_this v_this_families v_this_quota v_this_coldCount a_this_kinds a_this_warmths a_this_prices a_this_favourers a_this_colds v_this_kinds)) 0 0 (va_A (w_X5_weightOfSet cyI cyZ cyW a_this v_this_families v_this_quota v_this_coldCount a_this_kinds a_this_warmths a_this_prices a_this_favourers a_this_colds v_this_kinds) sz) := by
  intro sz
  refine met_of (cc := cX5_weightOfSet) (maxL := 5) (ret := (some .int)) (lv0 := [(0, .ref a_this), (1, .int x1), (2, .int x2)]) (by decide) rfl ⟨(Nat.le_of_ble_eq_true rfl), rfl⟩ ?_
  intro p e s m below meth c C hr hlk hnm hsz
  subst hsz
  have C : CX p s m _ c 5 cX5_weightOfSet RX5 wsX5_weightOfSet D (tyG cyI cyZ cyW) _ := C
  obtain ⟨Z, hZ⟩ : ∃ Z : va_W → Nat → LV → List Value → Prop, Z = ST p l e { frames := 1, cells := 0, slots := 0, locals := 22 } s m [.ref a_this, .int x1, .int x2].toArray below meth c 5 D (va_A (w_X5_weightOfSet cyI cyZ cyW a_this v_this_families v_this_quota v_this_coldCount a_this_kinds a_this_warmths a_this_prices a_this_favourers a_this_colds v_this_kinds) s.heap.size) (MQ below (QI D (tyG cyI cyZ cyW) (w_X5_weightOfSet cyI cyZ cyW a_this v_this_families v_this_quota v_this_coldCount a_this_kinds a_this_warmths a_this_prices a_this_favourers a_this_colds v_this_kinds) s.heap.size res (w_X5_weightOfSet cyI cyZ cyW a_this v_this_families v_this_quota v_this_coldCount a_this_kinds a_this_warmths a_this_prices a_this_favourers a_this_colds v_this_kinds)) [.ref a_this, .int x1, .int x2].toArray s 0 0 (va_A (w_X5_weightOfSet cyI cyZ cyW a_this v_this_families v_this_quota v_this_coldCount a_this_kinds a_this_warmths a_this_prices a_this_favourers a_this_colds v_this_kinds) s.heap.size)) 0 0 := ⟨_, rfl⟩
  have hb_33 : ∀ (k_5 : Int32 → Int32 → Int32 → Int32 → Option (Int32)), (∀ (x1 : Int32) (x2 : Int32) (x3 : Int32) (x4 : Int32), k_5 x1 x2 x3 x4 = some res → Z (w_X5_weightOfSet cyI cyZ cyW a_this v_this_families v_this_quota v_this_coldCount a_this_kinds a_this_warmths a_this_prices a_this_favourers a_this_colds v_this_kinds) 5 [(0, .ref a_this), (1, .int x1), (2, .int x2), (3, .int x3), (4, .int x4)] []) → ∀ (x1 : Int32) (x2 : Int32) (x3 : Int32) (x4 : Int32), f_X5_weightOfSet_b33 v_this_families v_this_kinds k_5 x1 x2 x3 x4 = some res → Z (w_X5_weightOfSet cyI cyZ cyW a_this v_this_families v_this_quota v_this_coldCount a_this_kinds a_this_warmths a_this_prices a_this_favourers a_this_colds v_this_kinds) 33 [(0, .ref a_this), (1, .int x1), (2, .int x2), (3, .int x3), (4, .int x4)] [] := by
    subst hZ
    intro k_5 hk_5 x1 x2 x3 x4 hf
    refine r_iinc (v := 1) (k := 4) (lv' := [(4, .int (x4 + 1)), (0, .ref a_this), (1, .int x1), (2, .int x2), (3, .int x3)]) C dX5_weightOfSet_33 rfl (by decide) (by decide) rfl ?_
    refine r_goto C 5 dX5_weightOfSet_36 (by decide) ?_
    exact ST_lv [1, 2, 3, 4, 0] rfl (hk_5 x1 x2 x3 (x4 + 1) hf)
  have hs_5 : ∀ (k_5 : Int32 → Int32 → Int32 → Int32 → Option (Int32)), (∀ (x1 : Int32) (x2 : Int32) (x3 : Int32) (x4 : Int32), k_5 x1 x2 x3 x4 = some res → Z (w_X5_weightOfSet cyI cyZ cyW a_this v_this_families v_this_quota v_this_coldCount a_this_kinds a_this_warmths a_this_prices a_this_favourers a_this_colds v_this_kinds) 5 [(0, .ref a_this), (1, .int x1), (2, .int x2), (3, .int x3), (4, .int x4)] []) → ∀ (x1 : Int32) (x2 : Int32) (x3 : Int32) (x4 : Int32), f_X5_weightOfSet_s5 v_this_families v_this_kinds k_5 x1 x2 x3 x4 = some res → Z (w_X5_weightOfSet cyI cyZ cyW a_this v_this_families v_this_quota v_this_coldCount a_this_kinds a_this_warmths a_this_prices a_this_favourers a_this_colds v_this_kinds) 5 [(0, .ref a_this), (1, .int x1), (2, .int x2), (3, .int x3), (4, .int x4)] [] := by
    subst hZ
    intro k_5 hk_5 x1 x2 x3 x4 hf
    refine r_iload C dX5_weightOfSet_5 4 rfl ?_
    refine r_aload_n C dX5_weightOfSet_7 rfl 0 rfl ?_
    refine r_get C in_X5_weightOfSet_X5 0 rfl rfl 0 (by decide) lk_X5_weightOfSet_1 rfl rfl dX5_weightOfSet_8 ?_
    refine r_icmp_ge C 39 dX5_weightOfSet_11 (by decide) hf (fun hf => ?_) (fun hf => ?_)
    · refine r_iload_n C dX5_weightOfSet_39 rfl 3 rfl ?_
      rw [← Option.some.inj hf]
      exact r_iret C hr hlk dX5_weightOfSet_40
    · refine r_iload_n C dX5_weightOfSet_14 rfl 1 rfl ?_
      refine r_iload C dX5_weightOfSet_15 4 rfl ?_
      obtain ⟨y1, hy2, hf⟩ := bd_some hf
      refine r_roSN_i (As := [.int x1, .int x4]) (rest := []) C (c_X8_holds l D cyI cyZ cyW x1 x4 y1 hy2) gX5_weightOfSet_X8_holds_n47 9 rfl lk_X5_weightOfSet_3 lk_X5_weightOfSet_2 rfl hyS_X8_holds ⟨rfl, rfl, (Nat.le_of_ble_eq_true rfl), (Nat.le_of_ble_eq_true rfl)⟩ rfl [] rfl rfl rfl (Nat.le_of_ble_eq_true rfl) ⟨Nat.zero_le _, Nat.zero_le _⟩ dX5_weightOfSet_17 ?_
      refine r_if_eq C 33 dX5_weightOfSet_20 (by decide) hf (fun hf => ?_) (fun hf => ?_)
      · exact ST_lv [0, 1, 2, 3, 4] rfl (hb_33 k_5 hk_5 x1 x2 x3 x4 hf)
      · refine r_iload_n C dX5_weightOfSet_23 rfl 3 rfl ?_
        refine r_aload_n C dX5_weightOfSet_24 rfl 0 rfl ?_
        refine r_iload C dX5_weightOfSet_25 4 rfl ?_
        refine r_iload_n C dX5_weightOfSet_27 rfl 2 rfl ?_
        obtain ⟨y3, hy4, hf⟩ := bd_some hf
        refine r_roV_i (As := [.int x4, .int x2]) (rest := [.int x3]) C (c_X5_weightOf l D cyI cyZ cyW a_this v_this_families v_this_quota v_this_coldCount a_this_kinds a_this_warmths a_this_prices a_this_favourers a_this_colds v_this_kinds x4 x2 y3 hy4) gX5_weightOfSet_X5_weightOf rfl hyV_X5_weightOf ⟨rfl, rfl, (Nat.le_of_ble_eq_true rfl), (Nat.le_of_ble_eq_true rfl)⟩ rfl 0 rfl rfl [0, 1] rfl rfl rfl (Nat.le_of_ble_eq_true rfl) ⟨Nat.zero_le _, Nat.zero_le _⟩ dX5_weightOfSet_28 ?_
        refine r_iadd C dX5_weightOfSet_31 ?_
        refine r_istore_n (lv' := [(3, .int (x3 + y3)), (0, .ref a_this), (1, .int x1), (2, .int x2), (4, .int x4)]) C dX5_weightOfSet_32 rfl (by decide) rfl ?_
        exact ST_lv [1, 2, 3, 0, 4] rfl (hb_33 k_5 hk_5 x1 x2 (x3 + y3) x4 hf)
  have hb_5 : ∀ (n : Nat) (x1 : Int32) (x2 : Int32) (x3 : Int32) (x4 : Int32), f_X5_weightOfSet_b5 v_this_families v_this_kinds n x1 x2 x3 x4 = some res → Z (w_X5_weightOfSet cyI cyZ cyW a_this v_this_families v_this_quota v_this_coldCount a_this_kinds a_this_warmths a_this_prices a_this_favourers a_this_colds v_this_kinds) 5 [(0, .ref a_this), (1, .int x1), (2, .int x2), (3, .int x3), (4, .int x4)] [] := by
    intro  n
    induction n with
    | zero => intro x1 x2 x3 x4 hf; exact nn_ hf
    | succ n ih => exact fun x1 x2 x3 x4 hf => hs_5 _ ih x1 x2 x3 x4 hf
  subst hZ
  refine r_iconst C 0 dX5_weightOfSet_0 (by decide) ?_
  refine r_istore_n (lv' := [(3, .int 0), (0, .ref a_this), (1, .int x1), (2, .int x2)]) C dX5_weightOfSet_1 rfl (by decide) rfl ?_
  refine r_iconst C 0 dX5_weightOfSet_2 (by decide) ?_
  refine r_istore (lv' := [(4, .int 0), (3, .int 0), (0, .ref a_this), (1, .int x1), (2, .int x2)]) C dX5_weightOfSet_3 (by decide) rfl ?_
  exact ST_lv [2, 3, 4, 1, 0] rfl (hb_5 5000 x1 x2 0 0 hf)

theorem lk_X5_isCarriedBy_1 : Cond.fieldLink RX5 9 "ParishCoat$Told" "quota" "I" ∈ wsX5_isCarriedBy := List.mem_of_getElem? (i := 1) rfl
theorem in_X5_isCarriedBy_X5 : ∀ w ∈ u_ws RX5 TX5 8, w ∈ wsX5_isCarriedBy := fun _ h => List.mem_cons_of_mem _ (List.mem_append_right _ h)
theorem hyV_X5_weightOfSet : yX5_weightOfSet.cls = RX5 ∧ yX5_weightOfSet.cls ≠ "java/lang/invoke/MethodHandle" ∧ yX5_weightOfSet.cls ≠ "java/lang/invoke/VarHandle" ∧ (parseMethodDescriptor yX5_weightOfSet.desc).map (fun d => d.parameters.length) = some 2 := by decide +kernel
theorem hyS_X5_weightOfSet : yX5_weightOfSet.cls ≠ "java/lang/invoke/MethodHandle" ∧ yX5_weightOfSet.cls ≠ "java/lang/invoke/VarHandle" ∧ (parseMethodDescriptor yX5_weightOfSet.desc).map (fun d => d.parameters.length) = some 2 := by decide +kernel
def f_X5_isCarriedBy (v_this_families : Int32) (v_this_quota : Int32) (v_this_kinds : Nat → Int32) (x1 : Int32) (x2 : Int32) : Option (Int32) := (f_X5_weightOfSet v_this_families v_this_kinds x1 x2).bind fun y1 => if y1 < v_this_quota then (some (0)) else (some (1))
def w_X5_isCarriedBy (cyI cyZ cyW : ClassId) (a_this : Nat) (v_this_families : Int32) (v_this_quota : Int32) (v_this_coldCount : Int32) (a_this_kinds : Nat) (a_this_warmths : Nat) (a_this_prices : Nat) (a_this_favourers : Nat) (a_this_colds : Nat) (v_this_kinds : Nat → Int32) : va_W := [(a_this, .inr (5, [.int v_this_families, .int v_this_quota, .int v_this_coldCount, .ref a_this_kinds, .ref a_this_warmths, .ref a_this_prices, .ref a_this_favourers, .ref a_this_colds])), (a_this_kinds, .inl (cyI, 7, .inl v_this_kinds))]
set_option maxHeartbeats 4000000 in
set_option maxRecDepth 100000 in
theorem c_X5_isCarriedBy (l : Launch) (D : va_G) (cyI cyZ cyW : ClassId) (a_this : Nat) (v_this_families : Int32) (v_this_quota : Int32) (v_this_coldCount : Int32) (a_this_kinds : Nat) (a_this_warmths : Nat) (a_this_prices : Nat) (a_this_favourers : Nat) (a_this_colds : Nat) (v_this_kinds : Nat → Int32) (x1 : Int32) (x2 : Int32) (res : Int32) (hf : f_X5_isCarriedBy v_this_families v_this_quota v_this_kinds x1 x2 = some res) : ∀ sz, Met l yX5_isCarriedBy wsX5_isCarriedBy { frames := 2, cells := 0, slots := 0, locals := 46 } (PCx D (tyG cyI cyZ cyW) [.ref a_this, .int x1, .int x2] (w_X5_isCarriedBy cyI cyZ cyW a_this v_this_families v_this_quota v_this_coldCount a_this_kinds a_this_warmths a_this_prices a_this_favourers a_this_colds v_this_kinds) sz) (QI D (tyG cyI cyZ cyW) (w_X5_isCarriedBy cyI cyZ cyW a_this v_this_families v_this_quota v_this_coldCount a_this_kinds a_this_warmths a_this_prices a_this_favourers a_this_colds v_this_kinds) sz res (w_X5_isCarriedBy cyI cyZ cyW a_this v_this_families v_this_quota v_this_coldCount a_this_kinds a_this_warmths a_this_prices a_this_favourers a_this_colds v_this_kinds)) 0 0 (va_A (w_X5_isCarriedBy cyI cyZ cyW a_this v_this_families v_this_quota v_this_coldCount a_this_kinds a_this_warmths a_this_prices a_this_favourers a_this_colds v_this_kinds) sz) := by
  intro sz
  refine met_of (cc := cX5_isCarriedBy) (maxL := 3) (ret := (some .boolean)) (lv0 := [(0, .ref a_this), (1, .int x1), (2, .int x2)]) (by decide) rfl ⟨(Nat.le_of_ble_eq_true rfl), rfl⟩ ?_
  intro p e s m below meth c C hr hlk hnm hsz
  subst hsz
  have C : CX p s m _ c 3 cX5_isCarriedBy RX5 wsX5_isCarriedBy D (tyG cyI cyZ cyW) _ := C
  refine r_aload_n C dX5_isCarriedBy_0 rfl 0 rfl ?_
  refine r_iload_n C dX5_isCarriedBy_1 rfl 1 rfl ?_
  refine r_iload_n C dX5_isCarriedBy_2 rfl 2 rfl ?_
  obtain ⟨y1, hy2, hf⟩ := bd_some hf
  refine r_roV_i (As := [.int x1, .int x2]) (rest := []) C (c_X5_weightOfSet l D cyI cyZ cyW a_this v_this_families v_this_quota v_this_coldCount a_this_kinds a_this_warmths a_this_prices a_this_favourers a_this_colds v_this_kinds x1 x2 y1 hy2) gX5_isCarriedBy_X5_weightOfSet rfl hyV_X5_weightOfSet ⟨rfl, rfl, (Nat.le_of_ble_eq_true rfl), (Nat.le_of_ble_eq_true rfl)⟩ rfl 0 rfl rfl [0, 1] rfl rfl rfl (Nat.le_of_ble_eq_true rfl) ⟨Nat.zero_le _, Nat.zero_le _⟩ dX5_isCarriedBy_3 ?_
  refine r_aload_n C dX5_isCarriedBy_6 rfl 0 rfl ?_
  refine r_get C in_X5_isCarriedBy_X5 0 rfl rfl 1 (by decide) lk_X5_isCarriedBy_1 rfl rfl dX5_isCarriedBy_7 ?_
  refine r_icmp_lt C 17 dX5_isCarriedBy_10 (by decide) hf (fun hf => ?_) (fun hf => ?_)
  · refine r_iconst C 0 dX5_isCarriedBy_17 (by decide) ?_
    rw [← Option.some.inj hf]
    exact r_zret (r := 0) C hr hlk rfl dX5_isCarriedBy_18
  · refine r_iconst C 1 dX5_isCarriedBy_13 (by decide) ?_
    refine r_goto C 18 dX5_isCarriedBy_14 (by decide) ?_
    rw [← Option.some.inj hf]
    exact r_zret (r := 1) C hr hlk rfl dX5_isCarriedBy_18

theorem lk_X5_warmthOfSet_1 : Cond.fieldLink RX5 31 "ParishCoat$Told" "families" "I" ∈ wsX5_warmthOfSet := List.mem_of_getElem? (i := 1) rfl
theorem lk_X5_warmthOfSet_2 : Cond.fieldLink RX5 19 "ParishCoat$Told" "warmths" "[I" ∈ wsX5_warmthOfSet := List.mem_of_getElem? (i := 2) rfl
theorem lk_X5_warmthOfSet_3 : Cond.static yX8_holds ∈ wsX5_warmthOfSet := List.mem_of_getElem? (i := 3) rfl
theorem lk_X5_warmthOfSet_4 : Cond.initialized RX8 ∈ wsX5_warmthOfSet := List.mem_of_getElem? (i := 4) rfl
theorem in_X5_warmthOfSet_X5 : ∀ w ∈ u_ws RX5 TX5 8, w ∈ wsX5_warmthOfSet := fun _ h => List.mem_cons_of_mem _ (List.mem_append_right _ h)
def f_X5_warmthOfSet_b62 (v_this_families : Int32) (v_this_warmths : Nat → Int32) (k_13 : Int32 → Int32 → Int32 → Int32 → Option (Int32)) (x1 : Int32) (x2 : Int32) (x3 : Int32) (x4 : Int32) : Option (Int32) := k_13 x1 x2 x3 (x4 + 1)
def f_X5_warmthOfSet_b60 (v_this_families : Int32) (v_this_warmths : Nat → Int32) (k_13 : Int32 → Int32 → Int32 → Int32 → Option (Int32)) (x1 : Int32) (x2 : Int32) (x4 : Int32) (s0 : Int32) (s1 : Int32) : Option (Int32) := f_X5_warmthOfSet_b62 v_this_families v_this_warmths k_13 x1 x2 (s1 + s0) x4
def f_X5_warmthOfSet_s13 (v_this_families : Int32) (v_this_warmths : Nat → Int32) (k_13 : Int32 → Int32 → Int32 → Int32 → Option (Int32)) (x1 : Int32) (x2 : Int32) (x3 : Int32) (x4 : Int32) : Option (Int32) := if v_this_families ≤ x4 then (some (x3)) else ((f_X8_holds x1 x4).bind fun y1 => if y1 = 0 then (f_X5_warmthOfSet_b62 v_this_families v_this_warmths k_13 x1 x2 x3 x4) else ((f_X8_holds x2 x4).bind fun y3 => if y3 = 0 then (gd_ x4 7 (f_X5_warmthOfSet_b60 v_this_families v_this_warmths k_13 x1 x2 x4 ((v_this_warmths (Int32.toNatClampNeg x4)) / 2) x3)) else (gd_ x4 7 (f_X5_warmthOfSet_b60 v_this_families v_this_warmths k_13 x1 x2 x4 (v_this_warmths (Int32.toNatClampNeg x4)) x3))))
def f_X5_warmthOfSet_b13 (v_this_families : Int32) (v_this_warmths : Nat → Int32) (n : Nat) : Int32 → Int32 → Int32 → Int32 → Option (Int32) := it_ (f_X5_warmthOfSet_s13 v_this_families v_this_warmths ) (fun _ _ _ _ => none) n
def f_X5_warmthOfSet (v_this_families : Int32) (v_this_warmths : Nat → Int32) (x1 : Int32) : Option (Int32) := f_X5_warmthOfSet_b13 v_this_families v_this_warmths 5000 x1 ((x1 <<< (1 &&& 31)) ||| (x1 >>> (1 &&& 31))) 0 0
def w_X5_warmthOfSet (cyI cyZ cyW : ClassId) (a_this : Nat) (v_this_families : Int32) (v_this_quota : Int32) (v_this_coldCount : Int32) (a_this_kinds : Nat) (a_this_warmths : Nat) (a_this_prices : Nat) (a_this_favourers : Nat) (a_this_colds : Nat) (v_this_warmths : Nat → Int32) : va_W := [(a_this, .inr (5, [.int v_this_families, .int v_this_quota, .int v_this_coldCount, .ref a_this_kinds, .ref a_this_warmths, .ref a_this_prices, .ref a_this_favourers, .ref a_this_colds])), (a_this_warmths, .inl (cyI, 7, .inl v_this_warmths))]
set_option maxHeartbeats 4000000 in
set_option maxRecDepth 100000 in
theorem c_X5_warmthOfSet (l : Launch) (D : va_G) (cyI cyZ cyW : ClassId) (a_this : Nat) (v_this_families : Int32) (v_this_quota : Int32) (v_this_coldCount : Int32) (a_this_kinds : Nat) (a_this_warmths : Nat) (a_this_prices : Nat) (a_this_favourers : Nat) (a_this_colds : Nat) (v_this_warmths : Nat → Int32) (x1 : Int32) (res : Int32) (hf : f_X5_warmthOfSet v_this_families v_this_warmths x1 = some res) : ∀ sz, Met l yX5_warmthOfSet wsX5_warmthOfSet { frames := 1, cells := 0, slots := 0, locals := 21 } (PCx D (tyG cyI cyZ cyW) [.ref a_this, .int x1] (w_X5_warmthOfSet cyI cyZ cyW a_this v_this_families v_this_quota v_this_coldCount a_this_kinds a_this_warmths a_this_prices a_this_favourers a_this_colds v_this_warmths) sz) (QI D (tyG cyI cyZ cyW) (w_X5_warmthOfSet cyI cyZ cyW a_this v_this_families v_this_quota v_this_coldCount a_this_kinds a_this_warmths a_this_prices a_this_favourers a_this_colds v_this_warmths) sz res (w_X5_warmthOfSet cyI cyZ cyW a_this v_this_families v_this_quota v_this_coldCount a_this_kinds a_this_warmths a_this_prices a_this_favourers a_this_colds v_this_warmths)) 0 0 (va_A (w_X5_warmthOfSet cyI cyZ cyW a_this v_this_families v_this_quota v_this_coldCount a_this_kinds a_this_warmths a_this_prices a_this_favourers a_this_colds v_this_warmths) sz) := by
  intro sz
  refine met_of (cc := cX5_warmthOfSet) (maxL := 5) (ret := (some .int)) (lv0 := [(0, .ref a_this), (1, .int x1)]) (by decide) rfl ⟨(Nat.le_of_ble_eq_true rfl), rfl⟩ ?_
  intro p e s m below meth c C hr hlk hnm hsz
  subst hsz
  have C : CX p s m _ c 5 cX5_warmthOfSet RX5 wsX5_warmthOfSet D (tyG cyI cyZ cyW) _ := C
  obtain ⟨Z, hZ⟩ : ∃ Z : va_W → Nat → LV → List Value → Prop, Z = ST p l e { frames := 1, cells := 0, slots := 0, locals := 21 } s m [.ref a_this, .int x1].toArray below meth c 5 D (va_A (w_X5_warmthOfSet cyI cyZ cyW a_this v_this_families v_this_quota v_this_coldCount a_this_kinds a_this_warmths a_this_prices a_this_favourers a_this_colds v_this_warmths) s.heap.size) (MQ below (QI D (tyG cyI cyZ cyW) (w_X5_warmthOfSet cyI cyZ cyW a_this v_this_families v_this_quota v_this_coldCount a_this_kinds a_this_warmths a_this_prices a_this_favourers a_this_colds v_this_warmths) s.heap.size res (w_X5_warmthOfSet cyI cyZ cyW a_this v_this_families v_this_quota v_this_coldCount a_this_kinds a_this_warmths a_this_prices a_this_favourers a_this_colds v_this_warmths)) [.ref a_this, .int x1].toArray s 0 0 (va_A (w_X5_warmthOfSet cyI cyZ cyW a_this v_this_families v_this_quota v_this_coldCount a_this_kinds a_this_warmths a_this_prices a_this_favourers a_this_colds v_this_warmths) s.heap.size)) 0 0 := ⟨_, rfl⟩
  have hb_62 : ∀ (k_13 : Int32 → Int32 → Int32 → Int32 → Option (Int32)), (∀ (x1 : Int32) (x2 : Int32) (x3 : Int32) (x4 : Int32), k_13 x1 x2 x3 x4 = some res → Z (w_X5_warmthOfSet cyI cyZ cyW a_this v_this_families v_this_quota v_this_coldCount a_this_kinds a_this_warmths a_this_prices a_this_favourers a_this_colds v_this_warmths) 13 [(0, .ref a_this), (1, .int x1), (2, .int x2), (3, .int x3), (4, .int x4)] []) → ∀ (x1 : Int32) (x2 : Int32) (x3 : Int32) (x4 : Int32), f_X5_warmthOfSet_b62 v_this_families v_this_warmths k_13 x1 x2 x3 x4 = some res → Z (w_X5_warmthOfSet cyI cyZ cyW a_this v_this_families v_this_quota v_this_coldCount a_this_kinds a_this_warmths a_this_prices a_this_favourers a_this_colds v_this_warmths) 62 [(0, .ref a_this), (1, .int x1), (2, .int x2), (3, .int x3), (4, .int x4)] [] := by
    subst hZ
    intro k_13 hk_13 x1 x2 x3 x4 hf
    refine r_iinc (v := 1) (k := 4) (lv' := [(4, .int (x4 + 1)), (0, .ref a_this), (1, .int x1), (2, .int x2), (3, .int x3)]) C dX5_warmthOfSet_62 rfl (by decide) (by decide) rfl ?_
    refine r_goto C 13 dX5_warmthOfSet_65 (by decide) ?_
    exact ST_lv [1, 2, 3, 4, 0] rfl (hk_13 x1 x2 x3 (x4 + 1) hf)
  have hb_60 : ∀ (k_13 : Int32 → Int32 → Int32 → Int32 → Option (Int32)), (∀ (x1 : Int32) (x2 : Int32) (x3 : Int32) (x4 : Int32), k_13 x1 x2 x3 x4 = some res → Z (w_X5_warmthOfSet cyI cyZ cyW a_this v_this_families v_this_quota v_this_coldCount a_this_kinds a_this_warmths a_this_prices a_this_favourers a_this_colds v_this_warmths) 13 [(0, .ref a_this), (1, .int x1), (2, .int x2), (3, .int x3), (4, .int x4)] []) → ∀ (x1 : Int32) (x2 : Int32) (x4 : Int32) (s0 : Int32) (s1 : Int32), f_X5_warmthOfSet_b60 v_this_families v_this_warmths k_13 x1 x2 x4 s0 s1 = some res → Z (w_X5_warmthOfSet cyI cyZ cyW a_this v_this_families v_this_quota v_this_coldCount a_this_kinds a_this_warmths a_this_prices a_this_favourers a_this_colds v_this_warmths) 60 [(0, .ref a_this), (1, .int x1), (2, .int x2), (4, .int x4)] [.int s0, .int s1] := by
    subst hZ
    intro k_13 hk_13 x1 x2 x4 s0 s1 hf
    refine r_iadd C dX5_warmthOfSet_60 ?_
    refine r_istore_n (lv' := [(3, .int (s1 + s0)), (0, .ref a_this), (1, .int x1), (2, .int x2), (4, .int x4)]) C dX5_warmthOfSet_61 rfl (by decide) rfl ?_
    exact ST_lv [1, 2, 3, 0, 4] rfl (hb_62 k_13 hk_13 x1 x2 (s1 + s0) x4 hf)
  have hs_13 : ∀ (k_13 : Int32 → Int32 → Int32 → Int32 → Option (Int32)), (∀ (x1 : Int32) (x2 : Int32) (x3 : Int32) (x4 : Int32), k_13 x1 x2 x3 x4 = some res → Z (w_X5_warmthOfSet cyI cyZ cyW a_this v_this_families v_this_quota v_this_coldCount a_this_kinds a_this_warmths a_this_prices a_this_favourers a_this_colds v_this_warmths) 13 [(0, .ref a_this), (1, .int x1), (2, .int x2), (3, .int x3), (4, .int x4)] []) → ∀ (x1 : Int32) (x2 : Int32) (x3 : Int32) (x4 : Int32), f_X5_warmthOfSet_s13 v_this_families v_this_warmths k_13 x1 x2 x3 x4 = some res → Z (w_X5_warmthOfSet cyI cyZ cyW a_this v_this_families v_this_quota v_this_coldCount a_this_kinds a_this_warmths a_this_prices a_this_favourers a_this_colds v_this_warmths) 13 [(0, .ref a_this), (1, .int x1), (2, .int x2), (3, .int x3), (4, .int x4)] [] := by
    subst hZ
    intro k_13 hk_13 x1 x2 x3 x4 hf
    refine r_iload C dX5_warmthOfSet_13 4 rfl ?_
    refine r_aload_n C dX5_warmthOfSet_15 rfl 0 rfl ?_
    refine r_get C in_X5_warmthOfSet_X5 0 rfl rfl 0 (by decide) lk_X5_warmthOfSet_1 rfl rfl dX5_warmthOfSet_16 ?_
    refine r_icmp_ge C 68 dX5_warmthOfSet_19 (by decide) hf (fun hf => ?_) (fun hf => ?_)
    · refine r_iload_n C dX5_warmthOfSet_68 rfl 3 rfl ?_
      rw [← Option.some.inj hf]
      exact r_iret C hr hlk dX5_warmthOfSet_69
    · refine r_iload_n C dX5_warmthOfSet_22 rfl 1 rfl ?_
      refine r_iload C dX5_warmthOfSet_23 4 rfl ?_
      obtain ⟨y1, hy2, hf⟩ := bd_some hf
      refine r_roSN_i (As := [.int x1, .int x4]) (rest := []) C (c_X8_holds l D cyI cyZ cyW x1 x4 y1 hy2) gX5_warmthOfSet_X8_holds_n47 9 rfl lk_X5_warmthOfSet_4 lk_X5_warmthOfSet_3 rfl hyS_X8_holds ⟨rfl, rfl, (Nat.le_of_ble_eq_true rfl), (Nat.le_of_ble_eq_true rfl)⟩ rfl [] rfl rfl rfl (Nat.le_of_ble_eq_true rfl) ⟨Nat.zero_le _, Nat.zero_le _⟩ dX5_warmthOfSet_25 ?_
      refine r_if_eq C 62 dX5_warmthOfSet_28 (by decide) hf (fun hf => ?_) (fun hf => ?_)
      · exact ST_lv [0, 1, 2, 3, 4] rfl (hb_62 k_13 hk_13 x1 x2 x3 x4 hf)
      · refine r_iload_n C dX5_warmthOfSet_31 rfl 3 rfl ?_
        refine r_iload_n C dX5_warmthOfSet_32 rfl 2 rfl ?_
        refine r_iload C dX5_warmthOfSet_33 4 rfl ?_
        obtain ⟨y3, hy4, hf⟩ := bd_some hf
        refine r_roSN_i (As := [.int x2, .int x4]) (rest := [.int x3]) C (c_X8_holds l D cyI cyZ cyW x2 x4 y3 hy4) gX5_warmthOfSet_X8_holds_n47 9 rfl lk_X5_warmthOfSet_4 lk_X5_warmthOfSet_3 rfl hyS_X8_holds ⟨rfl, rfl, (Nat.le_of_ble_eq_true rfl), (Nat.le_of_ble_eq_true rfl)⟩ rfl [] rfl rfl rfl (Nat.le_of_ble_eq_true rfl) ⟨Nat.zero_le _, Nat.zero_le _⟩ dX5_warmthOfSet_35 ?_
        refine r_if_eq C 51 dX5_warmthOfSet_38 (by decide) hf (fun hf => ?_) (fun hf => ?_)
        · refine r_aload_n C dX5_warmthOfSet_51 rfl 0 rfl ?_
          refine r_get C in_X5_warmthOfSet_X5 0 rfl rfl 4 (by decide) lk_X5_warmthOfSet_2 rfl rfl dX5_warmthOfSet_52 ?_
          refine r_iload C dX5_warmthOfSet_55 4 rfl ?_
          obtain ⟨hi5, hf⟩ := gd_some hf
          refine r_iald C 1 0 rfl rfl hi5 dX5_warmthOfSet_57 ?_
          refine r_iconst C 2 dX5_warmthOfSet_58 (by decide) ?_
          refine r_idiv C dX5_warmthOfSet_59 (by decide) ?_
          exact ST_lv [0, 1, 2, 4] rfl (hb_60 k_13 hk_13 x1 x2 x4 ((v_this_warmths (Int32.toNatClampNeg x4)) / 2) x3 hf)
        · refine r_aload_n C dX5_warmthOfSet_41 rfl 0 rfl ?_
          refine r_get C in_X5_warmthOfSet_X5 0 rfl rfl 4 (by decide) lk_X5_warmthOfSet_2 rfl rfl dX5_warmthOfSet_42 ?_
          refine r_iload C dX5_warmthOfSet_45 4 rfl ?_
          obtain ⟨hi6, hf⟩ := gd_some hf
          refine r_iald C 1 0 rfl rfl hi6 dX5_warmthOfSet_47 ?_
          refine r_goto C 60 dX5_warmthOfSet_48 (by decide) ?_
          exact ST_lv [0, 1, 2, 4] rfl (hb_60 k_13 hk_13 x1 x2 x4 (v_this_warmths (Int32.toNatClampNeg x4)) x3 hf)
  have hb_13 : ∀ (n : Nat) (x1 : Int32) (x2 : Int32) (x3 : Int32) (x4 : Int32), f_X5_warmthOfSet_b13 v_this_families v_this_warmths n x1 x2 x3 x4 = some res → Z (w_X5_warmthOfSet cyI cyZ cyW a_this v_this_families v_this_quota v_this_coldCount a_this_kinds a_this_warmths a_this_prices a_this_favourers a_this_colds v_this_warmths) 13 [(0, .ref a_this), (1, .int x1), (2, .int x2), (3, .int x3), (4, .int x4)] [] := by
    intro  n
    induction n with
    | zero => intro x1 x2 x3 x4 hf; exact nn_ hf
    | succ n ih => exact fun x1 x2 x3 x4 hf => hs_13 _ ih x1 x2 x3 x4 hf
  subst hZ
  refine r_iload_n C dX5_warmthOfSet_0 rfl 1 rfl ?_
  refine r_iconst C 1 dX5_warmthOfSet_1 (by decide) ?_
  refine r_ishl C dX5_warmthOfSet_2 ?_
  refine r_iload_n C dX5_warmthOfSet_3 rfl 1 rfl ?_
  refine r_iconst C 1 dX5_warmthOfSet_4 (by decide) ?_
  refine r_ishr C dX5_warmthOfSet_5 ?_
  refine r_ior C dX5_warmthOfSet_6 ?_
  refine r_istore_n (lv' := [(2, .int ((x1 <<< (1 &&& 31)) ||| (x1 >>> (1 &&& 31)))), (0, .ref a_this), (1, .int x1)]) C dX5_warmthOfSet_7 rfl (by decide) rfl ?_
  refine r_iconst C 0 dX5_warmthOfSet_8 (by decide) ?_
  refine r_istore_n (lv' := [(3, .int 0), (2, .int ((x1 <<< (1 &&& 31)) ||| (x1 >>> (1 &&& 31)))), (0, .ref a_this), (1, .int x1)]) C dX5_warmthOfSet_9 rfl (by decide) rfl ?_
  refine r_iconst C 0 dX5_warmthOfSet_10 (by decide) ?_
  refine r_istore (lv' := [(4, .int 0), (3, .int 0), (2, .int ((x1 <<< (1 &&& 31)) ||| (x1 >>> (1 &&& 31)))), (0, .ref a_this), (1, .int x1)]) C dX5_warmthOfSet_11 (by decide) rfl ?_
  exact ST_lv [3, 4, 2, 1, 0] rfl (hb_13 5000 x1 ((x1 <<< (1 &&& 31)) ||| (x1 >>> (1 &&& 31))) 0 0 hf)

theorem lk_X5_priceOfSet_1 : Cond.fieldLink RX5 31 "ParishCoat$Told" "families" "I" ∈ wsX5_priceOfSet := List.mem_of_getElem? (i := 1) rfl
theorem lk_X5_priceOfSet_2 : Cond.fieldLink RX5 22 "ParishCoat$Told" "prices" "[I" ∈ wsX5_priceOfSet := List.mem_of_getElem? (i := 2) rfl
theorem lk_X5_priceOfSet_3 : Cond.static yX8_holds ∈ wsX5_priceOfSet := List.mem_of_getElem? (i := 3) rfl
theorem lk_X5_priceOfSet_4 : Cond.initialized RX8 ∈ wsX5_priceOfSet := List.mem_of_getElem? (i := 4) rfl
theorem in_X5_priceOfSet_X5 : ∀ w ∈ u_ws RX5 TX5 8, w ∈ wsX5_priceOfSet := fun _ h => List.mem_cons_of_mem _ (List.mem_append_right _ h)
def f_X5_priceOfSet_b29 (v_this_families : Int32) (v_this_prices : Nat → Int32) (k_4 : Int32 → Int32 → Int32 → Option (Int32)) (x1 : Int32) (x2 : Int32) (x3 : Int32) : Option (Int32) := k_4 x1 x2 (x3 + 1)
def f_X5_priceOfSet_s4 (v_this_families : Int32) (v_this_prices : Nat → Int32) (k_4 : Int32 → Int32 → Int32 → Option (Int32)) (x1 : Int32) (x2 : Int32) (x3 : Int32) : Option (Int32) := if v_this_families ≤ x3 then (some (x2)) else ((f_X8_holds x1 x3).bind fun y1 => if y1 = 0 then (f_X5_priceOfSet_b29 v_this_families v_this_prices k_4 x1 x2 x3) else (gd_ x3 7 (f_X5_priceOfSet_b29 v_this_families v_this_prices k_4 x1 (x2 + (v_this_prices (Int32.toNatClampNeg x3))) x3)))
def f_X5_priceOfSet_b4 (v_this_families : Int32) (v_this_prices : Nat → Int32) (n : Nat) : Int32 → Int32 → Int32 → Option (Int32) := it_ (f_X5_priceOfSet_s4 v_this_families v_this_prices ) (fun _ _ _ => none) n
def f_X5_priceOfSet (v_this_families : Int32) (v_this_prices : Nat → Int32) (x1 : Int32) : Option (Int32) := f_X5_priceOfSet_b4 v_this_families v_this_prices 5000 x1 0 0
def w_X5_priceOfSet (cyI cyZ cyW : ClassId) (a_this : Nat) (v_this_families : Int32) (v_this_quota : Int32) (v_this_coldCount : Int32) (a_this_kinds : Nat) (a_this_warmths : Nat) (a_this_prices : Nat) (a_this_favourers : Nat) (a_this_colds : Nat) (v_this_prices : Nat → Int32) : va_W := [(a_this, .inr (5, [.int v_this_families, .int v_this_quota, .int v_this_coldCount, .ref a_this_kinds, .ref a_this_warmths, .ref a_this_prices, .ref a_this_favourers, .ref a_this_colds])), (a_this_prices, .inl (cyI, 7, .inl v_this_prices))]
set_option maxHeartbeats 4000000 in
set_option maxRecDepth 100000 in
theorem c_X5_priceOfSet (l : Launch) (D : va_G) (cyI cyZ cyW : ClassId) (a_this : Nat) (v_this_families : Int32) (v_this_quota : Int32) (v_this_coldCount : Int32) (a_this_kinds : Nat) (a_this_warmths : Nat) (a_this_prices : Nat) (a_this_favourers : Nat) (a_this_colds : Nat) (v_this_prices : Nat → Int32) (x1 : Int32) (res : Int32) (hf : f_X5_priceOfSet v_this_families v_this_prices x1 = some res) : ∀ sz, Met l yX5_priceOfSet wsX5_priceOfSet { frames := 1, cells := 0, slots := 0, locals := 21 } (PCx D (tyG cyI cyZ cyW) [.ref a_this, .int x1] (w_X5_priceOfSet cyI cyZ cyW a_this v_this_families v_this_quota v_this_coldCount a_this_kinds a_this_warmths a_this_prices a_this_favourers a_this_colds v_this_prices) sz) (QI D (tyG cyI cyZ cyW) (w_X5_priceOfSet cyI cyZ cyW a_this v_this_families v_this_quota v_this_coldCount a_this_kinds a_this_warmths a_this_prices a_this_favourers a_this_colds v_this_prices) sz res (w_X5_priceOfSet cyI cyZ cyW a_this v_this_families v_this_quota v_this_coldCount a_this_kinds a_this_warmths a_this_prices a_this_favourers a_this_colds v_this_prices)) 0 0 (va_A (w_X5_priceOfSet cyI cyZ cyW a_this v_this_families v_this_quota v_this_coldCount a_this_kinds a_this_warmths a_this_prices a_this_favourers a_this_colds v_this_prices) sz) := by
  intro sz
  refine met_of (cc := cX5_priceOfSet) (maxL := 4) (ret := (some .int)) (lv0 := [(0, .ref a_this), (1, .int x1)]) (by decide) rfl ⟨(Nat.le_of_ble_eq_true rfl), rfl⟩ ?_
  intro p e s m below meth c C hr hlk hnm hsz
  subst hsz
  have C : CX p s m _ c 4 cX5_priceOfSet RX5 wsX5_priceOfSet D (tyG cyI cyZ cyW) _ := C
  obtain ⟨Z, hZ⟩ : ∃ Z : va_W → Nat → LV → List Value → Prop, Z = ST p l e { frames := 1, cells := 0, slots := 0, locals := 21 } s m [.ref a_this, .int x1].toArray below meth c 4 D (va_A (w_X5_priceOfSet cyI cyZ cyW a_this v_this_families v_this_quota v_this_coldCount a_this_kinds a_this_warmths a_this_prices a_this_favourers a_this_colds v_this_prices) s.heap.size) (MQ below (QI D (tyG cyI cyZ cyW) (w_X5_priceOfSet cyI cyZ cyW a_this v_this_families v_this_quota v_this_coldCount a_this_kinds a_this_warmths a_this_prices a_this_favourers a_this_colds v_this_prices) s.heap.size res (w_X5_priceOfSet cyI cyZ cyW a_this v_this_families v_this_quota v_this_coldCount a_this_kinds a_this_warmths a_this_prices a_this_favourers a_this_colds v_this_prices)) [.ref a_this, .int x1].toArray s 0 0 (va_A (w_X5_priceOfSet cyI cyZ cyW a_this v_this_families v_this_quota v_this_coldCount a_this_kinds a_this_warmths a_this_prices a_this_favourers a_this_colds v_this_prices) s.heap.size)) 0 0 := ⟨_, rfl⟩
  have hb_29 : ∀ (k_4 : Int32 → Int32 → Int32 → Option (Int32)), (∀ (x1 : Int32) (x2 : Int32) (x3 : Int32), k_4 x1 x2 x3 = some res → Z (w_X5_priceOfSet cyI cyZ cyW a_this v_this_families v_this_quota v_this_coldCount a_this_kinds a_this_warmths a_this_prices a_this_favourers a_this_colds v_this_prices) 4 [(0, .ref a_this), (1, .int x1), (2, .int x2), (3, .int x3)] []) → ∀ (x1 : Int32) (x2 : Int32) (x3 : Int32), f_X5_priceOfSet_b29 v_this_families v_this_prices k_4 x1 x2 x3 = some res → Z (w_X5_priceOfSet cyI cyZ cyW a_this v_this_families v_this_quota v_this_coldCount a_this_kinds a_this_warmths a_this_prices a_this_favourers a_this_colds v_this_prices) 29 [(0, .ref a_this), (1, .int x1), (2, .int x2), (3, .int x3)] [] := by
    subst hZ
    intro k_4 hk_4 x1 x2 x3 hf
    refine r_iinc (v := 1) (k := 3) (lv' := [(3, .int (x3 + 1)), (0, .ref a_this), (1, .int x1), (2, .int x2)]) C dX5_priceOfSet_29 rfl (by decide) (by decide) rfl ?_
    refine r_goto C 4 dX5_priceOfSet_32 (by decide) ?_
    exact ST_lv [1, 2, 3, 0] rfl (hk_4 x1 x2 (x3 + 1) hf)
  have hs_4 : ∀ (k_4 : Int32 → Int32 → Int32 → Option (Int32)), (∀ (x1 : Int32) (x2 : Int32) (x3 : Int32), k_4 x1 x2 x3 = some res → Z (w_X5_priceOfSet cyI cyZ cyW a_this v_this_families v_this_quota v_this_coldCount a_this_kinds a_this_warmths a_this_prices a_this_favourers a_this_colds v_this_prices) 4 [(0, .ref a_this), (1, .int x1), (2, .int x2), (3, .int x3)] []) → ∀ (x1 : Int32) (x2 : Int32) (x3 : Int32), f_X5_priceOfSet_s4 v_this_families v_this_prices k_4 x1 x2 x3 = some res → Z (w_X5_priceOfSet cyI cyZ cyW a_this v_this_families v_this_quota v_this_coldCount a_this_kinds a_this_warmths a_this_prices a_this_favourers a_this_colds v_this_prices) 4 [(0, .ref a_this), (1, .int x1), (2, .int x2), (3, .int x3)] [] := by
    subst hZ
    intro k_4 hk_4 x1 x2 x3 hf
    refine r_iload_n C dX5_priceOfSet_4 rfl 3 rfl ?_
    refine r_aload_n C dX5_priceOfSet_5 rfl 0 rfl ?_
    refine r_get C in_X5_priceOfSet_X5 0 rfl rfl 0 (by decide) lk_X5_priceOfSet_1 rfl rfl dX5_priceOfSet_6 ?_
    refine r_icmp_ge C 35 dX5_priceOfSet_9 (by decide) hf (fun hf => ?_) (fun hf => ?_)
    · refine r_iload_n C dX5_priceOfSet_35 rfl 2 rfl ?_
      rw [← Option.some.inj hf]
      exact r_iret C hr hlk dX5_priceOfSet_36
    · refine r_iload_n C dX5_priceOfSet_12 rfl 1 rfl ?_
      refine r_iload_n C dX5_priceOfSet_13 rfl 3 rfl ?_
      obtain ⟨y1, hy2, hf⟩ := bd_some hf
      refine r_roSN_i (As := [.int x1, .int x3]) (rest := []) C (c_X8_holds l D cyI cyZ cyW x1 x3 y1 hy2) gX5_priceOfSet_X8_holds_n47 9 rfl lk_X5_priceOfSet_4 lk_X5_priceOfSet_3 rfl hyS_X8_holds ⟨rfl, rfl, (Nat.le_of_ble_eq_true rfl), (Nat.le_of_ble_eq_true rfl)⟩ rfl [] rfl rfl rfl (Nat.le_of_ble_eq_true rfl) ⟨Nat.zero_le _, Nat.zero_le _⟩ dX5_priceOfSet_14 ?_
      refine r_if_eq C 29 dX5_priceOfSet_17 (by decide) hf (fun hf => ?_) (fun hf => ?_)
      · exact ST_lv [0, 1, 2, 3] rfl (hb_29 k_4 hk_4 x1 x2 x3 hf)
      · refine r_iload_n C dX5_priceOfSet_20 rfl 2 rfl ?_
        refine r_aload_n C dX5_priceOfSet_21 rfl 0 rfl ?_
        refine r_get C in_X5_priceOfSet_X5 0 rfl rfl 5 (by decide) lk_X5_priceOfSet_2 rfl rfl dX5_priceOfSet_22 ?_
        refine r_iload_n C dX5_priceOfSet_25 rfl 3 rfl ?_
        obtain ⟨hi3, hf⟩ := gd_some hf
        refine r_iald C 1 0 rfl rfl hi3 dX5_priceOfSet_26 ?_
        refine r_iadd C dX5_priceOfSet_27 ?_
        refine r_istore_n (lv' := [(2, .int (x2 + (v_this_prices (Int32.toNatClampNeg x3)))), (0, .ref a_this), (1, .int x1), (3, .int x3)]) C dX5_priceOfSet_28 rfl (by decide) rfl ?_
        exact ST_lv [1, 2, 0, 3] rfl (hb_29 k_4 hk_4 x1 (x2 + (v_this_prices (Int32.toNatClampNeg x3))) x3 hf)
  have hb_4 : ∀ (n : Nat) (x1 : Int32) (x2 : Int32) (x3 : Int32), f_X5_priceOfSet_b4 v_this_families v_this_prices n x1 x2 x3 = some res → Z (w_X5_priceOfSet cyI cyZ cyW a_this v_this_families v_this_quota v_this_coldCount a_this_kinds a_this_warmths a_this_prices a_this_favourers a_this_colds v_this_prices) 4 [(0, .ref a_this), (1, .int x1), (2, .int x2), (3, .int x3)] [] := by
    intro  n
    induction n with
    | zero => intro x1 x2 x3 hf; exact nn_ hf
    | succ n ih => exact fun x1 x2 x3 hf => hs_4 _ ih x1 x2 x3 hf
  subst hZ
  refine r_iconst C 0 dX5_priceOfSet_0 (by decide) ?_
  refine r_istore_n (lv' := [(2, .int 0), (0, .ref a_this), (1, .int x1)]) C dX5_priceOfSet_1 rfl (by decide) rfl ?_
  refine r_iconst C 0 dX5_priceOfSet_2 (by decide) ?_
  refine r_istore_n (lv' := [(3, .int 0), (2, .int 0), (0, .ref a_this), (1, .int x1)]) C dX5_priceOfSet_3 rfl (by decide) rfl ?_
  exact ST_lv [2, 3, 1, 0] rfl (hb_4 5000 x1 0 0 hf)

theorem lk_X5_clear_1 : Cond.fieldLink RX5 31 "ParishCoat$Told" "families" "I" ∈ wsX5_clear := List.mem_of_getElem? (i := 1) rfl
theorem lk_X5_clear_2 : Cond.fieldLink RX5 9 "ParishCoat$Told" "quota" "I" ∈ wsX5_clear := List.mem_of_getElem? (i := 2) rfl
theorem lk_X5_clear_3 : Cond.fieldLink RX5 34 "ParishCoat$Told" "coldCount" "I" ∈ wsX5_clear := List.mem_of_getElem? (i := 3) rfl
theorem in_X5_clear_X5 : ∀ w ∈ u_ws RX5 TX5 8, w ∈ wsX5_clear := fun _ h => List.mem_cons_of_mem _ (List.mem_append_right _ h)
def f_X5_clear (v_this_families : Int32) (v_this_quota : Int32) (v_this_coldCount : Int32) : Option (Int32 × Int32 × Int32) := some (0, 3, 0)
def w_X5_clear (cyI cyZ cyW : ClassId) (a_this : Nat) (v_this_families : Int32) (v_this_quota : Int32) (v_this_coldCount : Int32) (a_this_kinds : Nat) (a_this_warmths : Nat) (a_this_prices : Nat) (a_this_favourers : Nat) (a_this_colds : Nat) : va_W := [(a_this, .inr (5, [.int v_this_families, .int v_this_quota, .int v_this_coldCount, .ref a_this_kinds, .ref a_this_warmths, .ref a_this_prices, .ref a_this_favourers, .ref a_this_colds]))]
set_option maxHeartbeats 4000000 in
set_option maxRecDepth 100000 in
theorem c_X5_clear (l : Launch) (D : va_G) (cyI cyZ cyW : ClassId) (a_this : Nat) (v_this_families : Int32) (v_this_quota : Int32) (v_this_coldCount : Int32) (a_this_kinds : Nat) (a_this_warmths : Nat) (a_this_prices : Nat) (a_this_favourers : Nat) (a_this_colds : Nat) (res : Int32 × Int32 × Int32) (hf : f_X5_clear v_this_families v_this_quota v_this_coldCount = some res) : ∀ sz, Met l yX5_clear wsX5_clear { frames := 0, cells := 0, slots := 0, locals := 0 } (PCx D (tyG cyI cyZ cyW) [.ref a_this] (w_X5_clear cyI cyZ cyW a_this v_this_families v_this_quota v_this_coldCount a_this_kinds a_this_warmths a_this_prices a_this_favourers a_this_colds) sz) (QV D (tyG cyI cyZ cyW) (w_X5_clear cyI cyZ cyW a_this v_this_families v_this_quota v_this_coldCount a_this_kinds a_this_warmths a_this_prices a_this_favourers a_this_colds) sz (w_X5_clear cyI cyZ cyW a_this res.1 res.2.1 res.2.2 a_this_kinds a_this_warmths a_this_prices a_this_favourers a_this_colds)) 0 0 (va_A (w_X5_clear cyI cyZ cyW a_this v_this_families v_this_quota v_this_coldCount a_this_kinds a_this_warmths a_this_prices a_this_favourers a_this_colds) sz) := by
  intro sz
  refine met_of (cc := cX5_clear) (maxL := 1) (ret := none) (lv0 := [(0, .ref a_this)]) (by decide) rfl ⟨(Nat.le_of_ble_eq_true rfl), rfl⟩ ?_
  intro p e s m below meth c C hr hlk hnm hsz
  subst hsz
  have C : CX p s m _ c 1 cX5_clear RX5 wsX5_clear D (tyG cyI cyZ cyW) _ := C
  refine r_aload_n C dX5_clear_0 rfl 0 rfl ?_
  refine r_iconst C 0 dX5_clear_1 (by decide) ?_
  refine r_put (ws' := (w_X5_clear cyI cyZ cyW a_this 0 v_this_quota v_this_coldCount a_this_kinds a_this_warmths a_this_prices a_this_favourers a_this_colds)) C in_X5_clear_X5 tyX5 tyX5_ok nmX5 0 rfl rfl 0 (by decide) lk_X5_clear_1 rfl rfl rfl rfl (Nat.le_of_ble_eq_true rfl) rfl dX5_clear_2 ?_
  refine r_aload_n C dX5_clear_5 rfl 0 rfl ?_
  refine r_iconst C 3 dX5_clear_6 (by decide) ?_
  refine r_put (ws' := (w_X5_clear cyI cyZ cyW a_this 0 3 v_this_coldCount a_this_kinds a_this_warmths a_this_prices a_this_favourers a_this_colds)) C in_X5_clear_X5 tyX5 tyX5_ok nmX5 0 rfl rfl 1 (by decide) lk_X5_clear_2 rfl rfl rfl rfl (Nat.le_of_ble_eq_true rfl) rfl dX5_clear_7 ?_
  refine r_aload_n C dX5_clear_10 rfl 0 rfl ?_
  refine r_iconst C 0 dX5_clear_11 (by decide) ?_
  refine r_put (ws' := (w_X5_clear cyI cyZ cyW a_this 0 3 0 a_this_kinds a_this_warmths a_this_prices a_this_favourers a_this_colds)) C in_X5_clear_X5 tyX5 tyX5_ok nmX5 0 rfl rfl 2 (by decide) lk_X5_clear_3 rfl rfl rfl rfl (Nat.le_of_ble_eq_true rfl) rfl dX5_clear_12 ?_
  rw [← Option.some.inj hf]
  exact r_vret C hr hlk dX5_clear_15

theorem lk_X5_addFamily_1 : Cond.fieldLink RX5 31 "ParishCoat$Told" "families" "I" ∈ wsX5_addFamily := List.mem_of_getElem? (i := 1) rfl
theorem lk_X5_addFamily_2 : Cond.fieldLink RX5 15 "ParishCoat$Told" "kinds" "[I" ∈ wsX5_addFamily := List.mem_of_getElem? (i := 2) rfl
theorem lk_X5_addFamily_3 : Cond.fieldLink RX5 19 "ParishCoat$Told" "warmths" "[I" ∈ wsX5_addFamily := List.mem_of_getElem? (i := 3) rfl
theorem lk_X5_addFamily_4 : Cond.fieldLink RX5 22 "ParishCoat$Told" "prices" "[I" ∈ wsX5_addFamily := List.mem_of_getElem? (i := 4) rfl
theorem lk_X5_addFamily_5 : Cond.fieldLink RX5 25 "ParishCoat$Told" "favourers" "[I" ∈ wsX5_addFamily := List.mem_of_getElem? (i := 5) rfl
theorem in_X5_addFamily_X5 : ∀ w ∈ u_ws RX5 TX5 8, w ∈ wsX5_addFamily := fun _ h => List.mem_cons_of_mem _ (List.mem_append_right _ h)
def f_X5_addFamily (v_this_families : Int32) (v_this_kinds : Nat → Int32) (v_this_warmths : Nat → Int32) (v_this_prices : Nat → Int32) (v_this_favourers : Nat → Int32) (x1 : Int32) (x2 : Int32) (x3 : Int32) : Option (Int32 × (Nat → Int32) × (Nat → Int32) × (Nat → Int32) × (Nat → Int32)) := if 7 ≤ v_this_families then (some (v_this_families, v_this_kinds, v_this_warmths, v_this_prices, v_this_favourers)) else (gd_ v_this_families 7 (gd_ v_this_families 7 (gd_ v_this_families 7 (gd_ v_this_families 7 (some ((v_this_families + 1), (upd v_this_kinds (Int32.toNatClampNeg v_this_families) x1), (upd v_this_warmths (Int32.toNatClampNeg v_this_families) x2), (upd v_this_prices (Int32.toNatClampNeg v_this_families) x3), (upd v_this_favourers (Int32.toNatClampNeg v_this_families) 0)))))))
def w_X5_addFamily (cyI cyZ cyW : ClassId) (a_this : Nat) (v_this_families : Int32) (v_this_quota : Int32) (v_this_coldCount : Int32) (a_this_kinds : Nat) (a_this_warmths : Nat) (a_this_prices : Nat) (a_this_favourers : Nat) (a_this_colds : Nat) (v_this_kinds : Nat → Int32) (v_this_warmths : Nat → Int32) (v_this_prices : Nat → Int32) (v_this_favourers : Nat → Int32) : va_W := [(a_this, .inr (5, [.int v_this_families, .int v_this_quota, .int v_this_coldCount, .ref a_this_kinds, .ref a_this_warmths, .ref a_this_prices, .ref a_this_favourers, .ref a_this_colds])), (a_this_kinds, .inl (cyI, 7, .inl v_this_kinds)), (a_this_warmths, .inl (cyI, 7, .inl v_this_warmths)), (a_this_prices, .inl (cyI, 7, .inl v_this_prices)), (a_this_favourers, .inl (cyI, 7, .inl v_this_favourers))]
set_option maxHeartbeats 4000000 in
set_option maxRecDepth 100000 in
theorem c_X5_addFamily (l : Launch) (D : va_G) (cyI cyZ cyW : ClassId) (a_this : Nat) (v_this_families : Int32) (v_this_quota : Int32) (v_this_coldCount : Int32) (a_this_kinds : Nat) (a_this_warmths : Nat) (a_this_prices : Nat) (a_this_favourers : Nat) (a_this_colds : Nat) (v_this_kinds : Nat → Int32) (v_this_warmths : Nat → Int32) (v_this_prices : Nat → Int32) (v_this_favourers : Nat → Int32) (x1 : Int32) (x2 : Int32) (x3 : Int32) (res : Int32 × (Nat → Int32) × (Nat → Int32) × (Nat → Int32) × (Nat → Int32)) (hf : f_X5_addFamily v_this_families v_this_kinds v_this_warmths v_this_prices v_this_favourers x1 x2 x3 = some res) : ∀ sz, Met l yX5_addFamily wsX5_addFamily { frames := 0, cells := 0, slots := 0, locals := 0 } (PCx D (tyG cyI cyZ cyW) [.ref a_this, .int x1, .int x2, .int x3] (w_X5_addFamily cyI cyZ cyW a_this v_this_families v_this_quota v_this_coldCount a_this_kinds a_this_warmths a_this_prices a_this_favourers a_this_colds v_this_kinds v_this_warmths v_this_prices v_this_favourers) sz) (QV D (tyG cyI cyZ cyW) (w_X5_addFamily cyI cyZ cyW a_this v_this_families v_this_quota v_this_coldCount a_this_kinds a_this_warmths a_this_prices a_this_favourers a_this_colds v_this_kinds v_this_warmths v_this_prices v_this_favourers) sz (w_X5_addFamily cyI cyZ cyW a_this res.1 v_this_quota v_this_coldCount a_this_kinds a_this_warmths a_this_prices a_this_favourers a_this_colds res.2.1 res.2.2.1 res.2.2.2.1 res.2.2.2.2)) 0 0 (va_A (w_X5_addFamily cyI cyZ cyW a_this v_this_families v_this_quota v_this_coldCount a_this_kinds a_this_warmths a_this_prices a_this_favourers a_this_colds v_this_kinds v_this_warmths v_this_prices v_this_favourers) sz) := by
  intro sz
  refine met_of (cc := cX5_addFamily) (maxL := 4) (ret := none) (lv0 := [(0, .ref a_this), (1, .int x1), (2, .int x2), (3, .int x3)]) (by decide) rfl ⟨(Nat.le_of_ble_eq_true rfl), rfl⟩ ?_
  intro p e s m below meth c C hr hlk hnm hsz
  subst hsz
  have C : CX p s m _ c 4 cX5_addFamily RX5 wsX5_addFamily D (tyG cyI cyZ cyW) _ := C
  refine r_aload_n C dX5_addFamily_0 rfl 0 rfl ?_
  refine r_get C in_X5_addFamily_X5 0 rfl rfl 0 (by decide) lk_X5_addFamily_1 rfl rfl dX5_addFamily_1 ?_
  refine r_bipush C 7 dX5_addFamily_4 (by decide) ?_
  refine r_icmp_ge C 59 dX5_addFamily_6 (by decide) hf (fun hf => ?_) (fun hf => ?_)
  · rw [← Option.some.inj hf]
    exact r_vret C hr hlk dX5_addFamily_59
  · refine r_aload_n C dX5_addFamily_9 rfl 0 rfl ?_
    refine r_get C in_X5_addFamily_X5 0 rfl rfl 3 (by decide) lk_X5_addFamily_2 rfl rfl dX5_addFamily_10 ?_
    refine r_aload_n C dX5_addFamily_13 rfl 0 rfl ?_
    refine r_get C in_X5_addFamily_X5 0 rfl rfl 0 (by decide) lk_X5_addFamily_1 rfl rfl dX5_addFamily_14 ?_
    refine r_iload_n C dX5_addFamily_17 rfl 1 rfl ?_
    obtain ⟨hi1, hf⟩ := gd_some hf
    refine r_iast (ws' := (w_X5_addFamily cyI cyZ cyW a_this v_this_families v_this_quota v_this_coldCount a_this_kinds a_this_warmths a_this_prices a_this_favourers a_this_colds (upd v_this_kinds (Int32.toNatClampNeg v_this_families) x1) v_this_warmths v_this_prices v_this_favourers)) C 1 0 rfl rfl hi1 rfl dX5_addFamily_18 ?_
    refine r_aload_n C dX5_addFamily_19 rfl 0 rfl ?_
    refine r_get C in_X5_addFamily_X5 0 rfl rfl 4 (by decide) lk_X5_addFamily_3 rfl rfl dX5_addFamily_20 ?_
    refine r_aload_n C dX5_addFamily_23 rfl 0 rfl ?_
    refine r_get C in_X5_addFamily_X5 0 rfl rfl 0 (by decide) lk_X5_addFamily_1 rfl rfl dX5_addFamily_24 ?_
    refine r_iload_n C dX5_addFamily_27 rfl 2 rfl ?_
    obtain ⟨hi2, hf⟩ := gd_some hf
    refine r_iast (ws' := (w_X5_addFamily cyI cyZ cyW a_this v_this_families v_this_quota v_this_coldCount a_this_kinds a_this_warmths a_this_prices a_this_favourers a_this_colds (upd v_this_kinds (Int32.toNatClampNeg v_this_families) x1) (upd v_this_warmths (Int32.toNatClampNeg v_this_families) x2) v_this_prices v_this_favourers)) C 2 0 rfl rfl hi2 rfl dX5_addFamily_28 ?_
    refine r_aload_n C dX5_addFamily_29 rfl 0 rfl ?_
    refine r_get C in_X5_addFamily_X5 0 rfl rfl 5 (by decide) lk_X5_addFamily_4 rfl rfl dX5_addFamily_30 ?_
    refine r_aload_n C dX5_addFamily_33 rfl 0 rfl ?_
    refine r_get C in_X5_addFamily_X5 0 rfl rfl 0 (by decide) lk_X5_addFamily_1 rfl rfl dX5_addFamily_34 ?_
    refine r_iload_n C dX5_addFamily_37 rfl 3 rfl ?_
    obtain ⟨hi3, hf⟩ := gd_some hf
    refine r_iast (ws' := (w_X5_addFamily cyI cyZ cyW a_this v_this_families v_this_quota v_this_coldCount a_this_kinds a_this_warmths a_this_prices a_this_favourers a_this_colds (upd v_this_kinds (Int32.toNatClampNeg v_this_families) x1) (upd v_this_warmths (Int32.toNatClampNeg v_this_families) x2) (upd v_this_prices (Int32.toNatClampNeg v_this_families) x3) v_this_favourers)) C 3 0 rfl rfl hi3 rfl dX5_addFamily_38 ?_
    refine r_aload_n C dX5_addFamily_39 rfl 0 rfl ?_
    refine r_get C in_X5_addFamily_X5 0 rfl rfl 6 (by decide) lk_X5_addFamily_5 rfl rfl dX5_addFamily_40 ?_
    refine r_aload_n C dX5_addFamily_43 rfl 0 rfl ?_
    refine r_get C in_X5_addFamily_X5 0 rfl rfl 0 (by decide) lk_X5_addFamily_1 rfl rfl dX5_addFamily_44 ?_
    refine r_iconst C 0 dX5_addFamily_47 (by decide) ?_
    obtain ⟨hi4, hf⟩ := gd_some hf
    refine r_iast (ws' := (w_X5_addFamily cyI cyZ cyW a_this v_this_families v_this_quota v_this_coldCount a_this_kinds a_this_warmths a_this_prices a_this_favourers a_this_colds (upd v_this_kinds (Int32.toNatClampNeg v_this_families) x1) (upd v_this_warmths (Int32.toNatClampNeg v_this_families) x2) (upd v_this_prices (Int32.toNatClampNeg v_this_families) x3) (upd v_this_favourers (Int32.toNatClampNeg v_this_families) 0))) C 4 0 rfl rfl hi4 rfl dX5_addFamily_48 ?_
    refine r_aload_n C dX5_addFamily_49 rfl 0 rfl ?_
    refine r_dup C dX5_addFamily_50 rfl ?_
    refine r_get C in_X5_addFamily_X5 0 rfl rfl 0 (by decide) lk_X5_addFamily_1 rfl rfl dX5_addFamily_51 ?_
    refine r_iconst C 1 dX5_addFamily_54 (by decide) ?_
    refine r_iadd C dX5_addFamily_55 ?_
    refine r_put (ws' := (w_X5_addFamily cyI cyZ cyW a_this (v_this_families + 1) v_this_quota v_this_coldCount a_this_kinds a_this_warmths a_this_prices a_this_favourers a_this_colds (upd v_this_kinds (Int32.toNatClampNeg v_this_families) x1) (upd v_this_warmths (Int32.toNatClampNeg v_this_families) x2) (upd v_this_prices (Int32.toNatClampNeg v_this_families) x3) (upd v_this_favourers (Int32.toNatClampNeg v_this_families) 0))) C in_X5_addFamily_X5 tyX5 tyX5_ok nmX5 0 rfl rfl 0 (by decide) lk_X5_addFamily_1 rfl rfl rfl rfl (Nat.le_of_ble_eq_true rfl) rfl dX5_addFamily_56 ?_
    rw [← Option.some.inj hf]
    exact r_vret C hr hlk dX5_addFamily_59

theorem lk_X5_addCold_1 : Cond.fieldLink RX5 34 "ParishCoat$Told" "coldCount" "I" ∈ wsX5_addCold := List.mem_of_getElem? (i := 1) rfl
theorem lk_X5_addCold_2 : Cond.fieldLink RX5 28 "ParishCoat$Told" "colds" "[I" ∈ wsX5_addCold := List.mem_of_getElem? (i := 2) rfl
theorem in_X5_addCold_X5 : ∀ w ∈ u_ws RX5 TX5 8, w ∈ wsX5_addCold := fun _ h => List.mem_cons_of_mem _ (List.mem_append_right _ h)
def f_X5_addCold (v_this_coldCount : Int32) (v_this_colds : Nat → Int32) (x1 : Int32) : Option (Int32 × (Nat → Int32)) := if 6 ≤ v_this_coldCount then (some (v_this_coldCount, v_this_colds)) else (gd_ v_this_coldCount 6 (some ((v_this_coldCount + 1), (upd v_this_colds (Int32.toNatClampNeg v_this_coldCount) x1))))
def w_X5_addCold (cyI cyZ cyW : ClassId) (a_this : Nat) (v_this_families : Int32) (v_this_quota : Int32) (v_this_coldCount : Int32) (a_this_kinds : Nat) (a_this_warmths : Nat) (a_this_prices : Nat) (a_this_favourers : Nat) (a_this_colds : Nat) (v_this_colds : Nat → Int32) : va_W := [(a_this, .inr (5, [.int v_this_families, .int v_this_quota, .int v_this_coldCount, .ref a_this_kinds, .ref a_this_warmths, .ref a_this_prices, .ref a_this_favourers, .ref a_this_colds])), (a_this_colds, .inl (cyI, 6, .inl v_this_colds))]
set_option maxHeartbeats 4000000 in
set_option maxRecDepth 100000 in
theorem c_X5_addCold (l : Launch) (D : va_G) (cyI cyZ cyW : ClassId) (a_this : Nat) (v_this_families : Int32) (v_this_quota : Int32) (v_this_coldCount : Int32) (a_this_kinds : Nat) (a_this_warmths : Nat) (a_this_prices : Nat) (a_this_favourers : Nat) (a_this_colds : Nat) (v_this_colds : Nat → Int32) (x1 : Int32) (res : Int32 × (Nat → Int32)) (hf : f_X5_addCold v_this_coldCount v_this_colds x1 = some res) : ∀ sz, Met l yX5_addCold wsX5_addCold { frames := 0, cells := 0, slots := 0, locals := 0 } (PCx D (tyG cyI cyZ cyW) [.ref a_this, .int x1] (w_X5_addCold cyI cyZ cyW a_this v_this_families v_this_quota v_this_coldCount a_this_kinds a_this_warmths a_this_prices a_this_favourers a_this_colds v_this_colds) sz) (QV D (tyG cyI cyZ cyW) (w_X5_addCold cyI cyZ cyW a_this v_this_families v_this_quota v_this_coldCount a_this_kinds a_this_warmths a_this_prices a_this_favourers a_this_colds v_this_colds) sz (w_X5_addCold cyI cyZ cyW a_this v_this_families v_this_quota res.1 a_this_kinds a_this_warmths a_this_prices a_this_favourers a_this_colds res.2)) 0 0 (va_A (w_X5_addCold cyI cyZ cyW a_this v_this_families v_this_quota v_this_coldCount a_this_kinds a_this_warmths a_this_prices a_this_favourers a_this_colds v_this_colds) sz) := by
  intro sz
  refine met_of (cc := cX5_addCold) (maxL := 2) (ret := none) (lv0 := [(0, .ref a_this), (1, .int x1)]) (by decide) rfl ⟨(Nat.le_of_ble_eq_true rfl), rfl⟩ ?_
  intro p e s m below meth c C hr hlk hnm hsz
  subst hsz
  have C : CX p s m _ c 2 cX5_addCold RX5 wsX5_addCold D (tyG cyI cyZ cyW) _ := C
  refine r_aload_n C dX5_addCold_0 rfl 0 rfl ?_
  refine r_get C in_X5_addCold_X5 0 rfl rfl 2 (by decide) lk_X5_addCold_1 rfl rfl dX5_addCold_1 ?_
  refine r_bipush C 6 dX5_addCold_4 (by decide) ?_
  refine r_icmp_ge C 29 dX5_addCold_6 (by decide) hf (fun hf => ?_) (fun hf => ?_)
  · rw [← Option.some.inj hf]
    exact r_vret C hr hlk dX5_addCold_29
  · refine r_aload_n C dX5_addCold_9 rfl 0 rfl ?_
    refine r_get C in_X5_addCold_X5 0 rfl rfl 7 (by decide) lk_X5_addCold_2 rfl rfl dX5_addCold_10 ?_
    refine r_aload_n C dX5_addCold_13 rfl 0 rfl ?_
    refine r_get C in_X5_addCold_X5 0 rfl rfl 2 (by decide) lk_X5_addCold_1 rfl rfl dX5_addCold_14 ?_
    refine r_iload_n C dX5_addCold_17 rfl 1 rfl ?_
    obtain ⟨hi1, hf⟩ := gd_some hf
    refine r_iast (ws' := (w_X5_addCold cyI cyZ cyW a_this v_this_families v_this_quota v_this_coldCount a_this_kinds a_this_warmths a_this_prices a_this_favourers a_this_colds (upd v_this_colds (Int32.toNatClampNeg v_this_coldCount) x1))) C 1 0 rfl rfl hi1 rfl dX5_addCold_18 ?_
    refine r_aload_n C dX5_addCold_19 rfl 0 rfl ?_
    refine r_dup C dX5_addCold_20 rfl ?_
    refine r_get C in_X5_addCold_X5 0 rfl rfl 2 (by decide) lk_X5_addCold_1 rfl rfl dX5_addCold_21 ?_
    refine r_iconst C 1 dX5_addCold_24 (by decide) ?_
    refine r_iadd C dX5_addCold_25 ?_
    refine r_put (ws' := (w_X5_addCold cyI cyZ cyW a_this v_this_families v_this_quota (v_this_coldCount + 1) a_this_kinds a_this_warmths a_this_prices a_this_favourers a_this_colds (upd v_this_colds (Int32.toNatClampNeg v_this_coldCount) x1))) C in_X5_addCold_X5 tyX5 tyX5_ok nmX5 0 rfl rfl 2 (by decide) lk_X5_addCold_1 rfl rfl rfl rfl (Nat.le_of_ble_eq_true rfl) rfl dX5_addCold_26 ?_
    rw [← Option.some.inj hf]
    exact r_vret C hr hlk dX5_addCold_29

theorem lk_X5_copyFrom_1 : Cond.fieldLink RX5 31 "ParishCoat$Told" "families" "I" ∈ wsX5_copyFrom := List.mem_of_getElem? (i := 1) rfl
theorem lk_X5_copyFrom_10 : Cond.fieldLink RX5 22 "ParishCoat$Told" "prices" "[I" ∈ wsX5_copyFrom := List.mem_of_getElem? (i := 10) rfl
theorem lk_X5_copyFrom_11 : Cond.fieldLink RX5 25 "ParishCoat$Told" "favourers" "[I" ∈ wsX5_copyFrom := List.mem_of_getElem? (i := 11) rfl
theorem lk_X5_copyFrom_12 : Cond.fieldLink RX5 28 "ParishCoat$Told" "colds" "[I" ∈ wsX5_copyFrom := List.mem_of_getElem? (i := 12) rfl
theorem lk_X5_copyFrom_2 : Cond.fieldLink RX5 9 "ParishCoat$Told" "quota" "I" ∈ wsX5_copyFrom := List.mem_of_getElem? (i := 2) rfl
theorem lk_X5_copyFrom_3 : Cond.fieldLink RX5 34 "ParishCoat$Told" "coldCount" "I" ∈ wsX5_copyFrom := List.mem_of_getElem? (i := 3) rfl
theorem lk_X5_copyFrom_4 : Cond.fieldLink RX5 15 "ParishCoat$Told" "kinds" "[I" ∈ wsX5_copyFrom := List.mem_of_getElem? (i := 4) rfl
theorem lk_X5_copyFrom_5 : Cond.methodLink RX5 37 arraycopyName ∈ wsX5_copyFrom := List.mem_of_getElem? (i := 5) rfl
theorem lk_X5_copyFrom_6 : Cond.native arraycopyName ∈ wsX5_copyFrom := List.mem_of_getElem? (i := 6) rfl
theorem lk_X5_copyFrom_7 : Cond.static arraycopyName ∈ wsX5_copyFrom := List.mem_of_getElem? (i := 7) rfl
theorem lk_X5_copyFrom_8 : Cond.initialized "java/lang/System" ∈ wsX5_copyFrom := List.mem_of_getElem? (i := 8) rfl
theorem lk_X5_copyFrom_9 : Cond.fieldLink RX5 19 "ParishCoat$Told" "warmths" "[I" ∈ wsX5_copyFrom := List.mem_of_getElem? (i := 9) rfl
theorem in_X5_copyFrom_X5 : ∀ w ∈ u_ws RX5 TX5 8, w ∈ wsX5_copyFrom := fun _ h => List.mem_cons_of_mem _ (List.mem_append_right _ h)
def f_X5_copyFrom (v_this_families : Int32) (v_this_quota : Int32) (v_this_coldCount : Int32) (v_p0_families : Int32) (v_p0_quota : Int32) (v_p0_coldCount : Int32) (v_p0_kinds : Nat → Int32) (v_this_kinds : Nat → Int32) (v_p0_warmths : Nat → Int32) (v_this_warmths : Nat → Int32) (v_p0_prices : Nat → Int32) (v_this_prices : Nat → Int32) (v_p0_favourers : Nat → Int32) (v_this_favourers : Nat → Int32) (v_p0_colds : Nat → Int32) (v_this_colds : Nat → Int32) : Option (Int32 × Int32 × Int32 × (Nat → Int32) × (Nat → Int32) × (Nat → Int32) × (Nat → Int32) × (Nat → Int32)) := some (v_p0_families, v_p0_quota, v_p0_coldCount, (va_cpy v_p0_kinds v_this_kinds 0 0 7), (va_cpy v_p0_warmths v_this_warmths 0 0 7), (va_cpy v_p0_prices v_this_prices 0 0 7), (va_cpy v_p0_favourers v_this_favourers 0 0 7), (va_cpy v_p0_colds v_this_colds 0 0 6))
def w_X5_copyFrom (cyI cyZ cyW : ClassId) (a_this : Nat) (v_this_families : Int32) (v_this_quota : Int32) (v_this_coldCount : Int32) (a_this_kinds : Nat) (a_this_warmths : Nat) (a_this_prices : Nat) (a_this_favourers : Nat) (a_this_colds : Nat) (a_p0 : Nat) (v_p0_families : Int32) (v_p0_quota : Int32) (v_p0_coldCount : Int32) (a_p0_kinds : Nat) (a_p0_warmths : Nat) (a_p0_prices : Nat) (a_p0_favourers : Nat) (a_p0_colds : Nat) (v_p0_kinds : Nat → Int32) (v_this_kinds : Nat → Int32) (v_p0_warmths : Nat → Int32) (v_this_warmths : Nat → Int32) (v_p0_prices : Nat → Int32) (v_this_prices : Nat → Int32) (v_p0_favourers : Nat → Int32) (v_this_favourers : Nat → Int32) (v_p0_colds : Nat → Int32) (v_this_colds : Nat → Int32) : va_W := [(a_this, .inr (5, [.int v_this_families, .int v_this_quota, .int v_this_coldCount, .ref a_this_kinds, .ref a_this_warmths, .ref a_this_prices, .ref a_this_favourers, .ref a_this_colds])), (a_p0, .inr (5, [.int v_p0_families, .int v_p0_quota, .int v_p0_coldCount, .ref a_p0_kinds, .ref a_p0_warmths, .ref a_p0_prices, .ref a_p0_favourers, .ref a_p0_colds])), (a_p0_kinds, .inl (cyI, 7, .inl v_p0_kinds)), (a_this_kinds, .inl (cyI, 7, .inl v_this_kinds)), (a_p0_warmths, .inl (cyI, 7, .inl v_p0_warmths)), (a_this_warmths, .inl (cyI, 7, .inl v_this_warmths)), (a_p0_prices, .inl (cyI, 7, .inl v_p0_prices)), (a_this_prices, .inl (cyI, 7, .inl v_this_prices)), (a_p0_favourers, .inl (cyI, 7, .inl v_p0_favourers)), (a_this_favourers, .inl (cyI, 7, .inl v_this_favourers)), (a_p0_colds, .inl (cyI, 6, .inl v_p0_colds)), (a_this_colds, .inl (cyI, 6, .inl v_this_colds))]
set_option maxHeartbeats 4000000 in
set_option maxRecDepth 100000 in
theorem c_X5_copyFrom (l : Launch) (D : va_G) (cyI cyZ cyW : ClassId) (a_this : Nat) (v_this_families : Int32) (v_this_quota : Int32) (v_this_coldCount : Int32) (a_this_kinds : Nat) (a_this_warmths : Nat) (a_this_prices : Nat) (a_this_favourers : Nat) (a_this_colds : Nat) (a_p0 : Nat) (v_p0_families : Int32) (v_p0_quota : Int32) (v_p0_coldCount : Int32) (a_p0_kinds : Nat) (a_p0_warmths : Nat) (a_p0_prices : Nat) (a_p0_favourers : Nat) (a_p0_colds : Nat) (v_p0_kinds : Nat → Int32) (v_this_kinds : Nat → Int32) (v_p0_warmths : Nat → Int32) (v_this_warmths : Nat → Int32) (v_p0_prices : Nat → Int32) (v_this_prices : Nat → Int32) (v_p0_favourers : Nat → Int32) (v_this_favourers : Nat → Int32) (v_p0_colds : Nat → Int32) (v_this_colds : Nat → Int32) (res : Int32 × Int32 × Int32 × (Nat → Int32) × (Nat → Int32) × (Nat → Int32) × (Nat → Int32) × (Nat → Int32)) (hf : f_X5_copyFrom v_this_families v_this_quota v_this_coldCount v_p0_families v_p0_quota v_p0_coldCount v_p0_kinds v_this_kinds v_p0_warmths v_this_warmths v_p0_prices v_this_prices v_p0_favourers v_this_favourers v_p0_colds v_this_colds = some res) : ∀ sz, Met l yX5_copyFrom wsX5_copyFrom { frames := 1, cells := 0, slots := 0, locals := 60 } (PCx D (tyG cyI cyZ cyW) [.ref a_this, .ref a_p0] (w_X5_copyFrom cyI cyZ cyW a_this v_this_families v_this_quota v_this_coldCount a_this_kinds a_this_warmths a_this_prices a_this_favourers a_this_colds a_p0 v_p0_families v_p0_quota v_p0_coldCount a_p0_kinds a_p0_warmths a_p0_prices a_p0_favourers a_p0_colds v_p0_kinds v_this_kinds v_p0_warmths v_this_warmths v_p0_prices v_this_prices v_p0_favourers v_this_favourers v_p0_colds v_this_colds) sz) (QV D (tyG cyI cyZ cyW) (w_X5_copyFrom cyI cyZ cyW a_this v_this_families v_this_quota v_this_coldCount a_this_kinds a_this_warmths a_this_prices a_this_favourers a_this_colds a_p0 v_p0_families v_p0_quota v_p0_coldCount a_p0_kinds a_p0_warmths a_p0_prices a_p0_favourers a_p0_colds v_p0_kinds v_this_kinds v_p0_warmths v_this_warmths v_p0_prices v_this_prices v_p0_favourers v_this_favourers v_p0_colds v_this_colds) sz (w_X5_copyFrom cyI cyZ cyW a_this res.1 res.2.1 res.2.2.1 a_this_kinds a_this_warmths a_this_prices a_this_favourers a_this_colds a_p0 v_p0_families v_p0_quota v_p0_coldCount a_p0_kinds a_p0_warmths a_p0_prices a_p0_favourers a_p0_colds v_p0_kinds res.2.2.2.1 v_p0_warmths res.2.2.2.2.1 v_p0_prices res.2.2.2.2.2.1 v_p0_favourers res.2.2.2.2.2.2.1 v_p0_colds res.2.2.2.2.2.2.2)) 0 0 (va_A (w_X5_copyFrom cyI cyZ cyW a_this v_this_families v_this_quota v_this_coldCount a_this_kinds a_this_warmths a_this_prices a_this_favourers a_this_colds a_p0 v_p0_families v_p0_quota v_p0_coldCount a_p0_kinds a_p0_warmths a_p0_prices a_p0_favourers a_p0_colds v_p0_kinds v_this_kinds v_p0_warmths v_this_warmths v_p0_prices v_this_prices v_p0_favourers v_this_favourers v_p0_colds v_this_colds) sz) := by
  intro sz
  refine met_of (cc := cX5_copyFrom) (maxL := 2) (ret := none) (lv0 := [(0, .ref a_this), (1, .ref a_p0)]) (by decide) rfl ⟨(Nat.le_of_ble_eq_true rfl), rfl⟩ ?_
  intro p e s m below meth c C hr hlk hnm hsz
  subst hsz
  have C : CX p s m _ c 2 cX5_copyFrom RX5 wsX5_copyFrom D (tyG cyI cyZ cyW) _ := C
  refine r_aload_n C dX5_copyFrom_0 rfl 0 rfl ?_
  refine r_aload_n C dX5_copyFrom_1 rfl 1 rfl ?_
  refine r_get C in_X5_copyFrom_X5 1 rfl rfl 0 (by decide) lk_X5_copyFrom_1 rfl rfl dX5_copyFrom_2 ?_
  refine r_put (ws' := (w_X5_copyFrom cyI cyZ cyW a_this v_p0_families v_this_quota v_this_coldCount a_this_kinds a_this_warmths a_this_prices a_this_favourers a_this_colds a_p0 v_p0_families v_p0_quota v_p0_coldCount a_p0_kinds a_p0_warmths a_p0_prices a_p0_favourers a_p0_colds v_p0_kinds v_this_kinds v_p0_warmths v_this_warmths v_p0_prices v_this_prices v_p0_favourers v_this_favourers v_p0_colds v_this_colds)) C in_X5_copyFrom_X5 tyX5 tyX5_ok nmX5 0 rfl rfl 0 (by decide) lk_X5_copyFrom_1 rfl rfl rfl rfl (Nat.le_of_ble_eq_true rfl) rfl dX5_copyFrom_5 ?_
  refine r_aload_n C dX5_copyFrom_8 rfl 0 rfl ?_
  refine r_aload_n C dX5_copyFrom_9 rfl 1 rfl ?_
  refine r_get C in_X5_copyFrom_X5 1 rfl rfl 1 (by decide) lk_X5_copyFrom_2 rfl rfl dX5_copyFrom_10 ?_
  refine r_put (ws' := (w_X5_copyFrom cyI cyZ cyW a_this v_p0_families v_p0_quota v_this_coldCount a_this_kinds a_this_warmths a_this_prices a_this_favourers a_this_colds a_p0 v_p0_families v_p0_quota v_p0_coldCount a_p0_kinds a_p0_warmths a_p0_prices a_p0_favourers a_p0_colds v_p0_kinds v_this_kinds v_p0_warmths v_this_warmths v_p0_prices v_this_prices v_p0_favourers v_this_favourers v_p0_colds v_this_colds)) C in_X5_copyFrom_X5 tyX5 tyX5_ok nmX5 0 rfl rfl 1 (by decide) lk_X5_copyFrom_2 rfl rfl rfl rfl (Nat.le_of_ble_eq_true rfl) rfl dX5_copyFrom_13 ?_
  refine r_aload_n C dX5_copyFrom_16 rfl 0 rfl ?_
  refine r_aload_n C dX5_copyFrom_17 rfl 1 rfl ?_
  refine r_get C in_X5_copyFrom_X5 1 rfl rfl 2 (by decide) lk_X5_copyFrom_3 rfl rfl dX5_copyFrom_18 ?_
  refine r_put (ws' := (w_X5_copyFrom cyI cyZ cyW a_this v_p0_families v_p0_quota v_p0_coldCount a_this_kinds a_this_warmths a_this_prices a_this_favourers a_this_colds a_p0 v_p0_families v_p0_quota v_p0_coldCount a_p0_kinds a_p0_warmths a_p0_prices a_p0_favourers a_p0_colds v_p0_kinds v_this_kinds v_p0_warmths v_this_warmths v_p0_prices v_this_prices v_p0_favourers v_this_favourers v_p0_colds v_this_colds)) C in_X5_copyFrom_X5 tyX5 tyX5_ok nmX5 0 rfl rfl 2 (by decide) lk_X5_copyFrom_3 rfl rfl rfl rfl (Nat.le_of_ble_eq_true rfl) rfl dX5_copyFrom_21 ?_
  refine r_aload_n C dX5_copyFrom_24 rfl 1 rfl ?_
  refine r_get C in_X5_copyFrom_X5 1 rfl rfl 3 (by decide) lk_X5_copyFrom_4 rfl rfl dX5_copyFrom_25 ?_
  refine r_iconst C 0 dX5_copyFrom_28 (by decide) ?_
  refine r_aload_n C dX5_copyFrom_29 rfl 0 rfl ?_
  refine r_get C in_X5_copyFrom_X5 0 rfl rfl 3 (by decide) lk_X5_copyFrom_4 rfl rfl dX5_copyFrom_30 ?_
  refine r_iconst C 0 dX5_copyFrom_33 (by decide) ?_
  refine r_bipush C 7 dX5_copyFrom_34 (by decide) ?_
  refine r_copyi (ws' := (w_X5_copyFrom cyI cyZ cyW a_this v_p0_families v_p0_quota v_p0_coldCount a_this_kinds a_this_warmths a_this_prices a_this_favourers a_this_colds a_p0 v_p0_families v_p0_quota v_p0_coldCount a_p0_kinds a_p0_warmths a_p0_prices a_p0_favourers a_p0_colds v_p0_kinds (va_cpy v_p0_kinds v_this_kinds 0 0 7) v_p0_warmths v_this_warmths v_p0_prices v_this_prices v_p0_favourers v_this_favourers v_p0_colds v_this_colds)) C lk_X5_copyFrom_5 lk_X5_copyFrom_6 lk_X5_copyFrom_7 lk_X5_copyFrom_8 2 3 0 rfl rfl rfl rfl (by decide) (by decide) (by decide) 7 ⟨by decide, by decide, by decide⟩ (by decide) (by decide) (Nat.le_of_ble_eq_true rfl) (by decide) rfl dX5_copyFrom_36 ?_
  refine r_aload_n C dX5_copyFrom_39 rfl 1 rfl ?_
  refine r_get C in_X5_copyFrom_X5 1 rfl rfl 4 (by decide) lk_X5_copyFrom_9 rfl rfl dX5_copyFrom_40 ?_
  refine r_iconst C 0 dX5_copyFrom_43 (by decide) ?_
  refine r_aload_n C dX5_copyFrom_44 rfl 0 rfl ?_
  refine r_get C in_X5_copyFrom_X5 0 rfl rfl 4 (by decide) lk_X5_copyFrom_9 rfl rfl dX5_copyFrom_45 ?_
  refine r_iconst C 0 dX5_copyFrom_48 (by decide) ?_
  refine r_bipush C 7 dX5_copyFrom_49 (by decide) ?_
  refine r_copyi (ws' := (w_X5_copyFrom cyI cyZ cyW a_this v_p0_families v_p0_quota v_p0_coldCount a_this_kinds a_this_warmths a_this_prices a_this_favourers a_this_colds a_p0 v_p0_families v_p0_quota v_p0_coldCount a_p0_kinds a_p0_warmths a_p0_prices a_p0_favourers a_p0_colds v_p0_kinds (va_cpy v_p0_kinds v_this_kinds 0 0 7) v_p0_warmths (va_cpy v_p0_warmths v_this_warmths 0 0 7) v_p0_prices v_this_prices v_p0_favourers v_this_favourers v_p0_colds v_this_colds)) C lk_X5_copyFrom_5 lk_X5_copyFrom_6 lk_X5_copyFrom_7 lk_X5_copyFrom_8 4 5 0 rfl rfl rfl rfl (by decide) (by decide) (by decide) 7 ⟨by decide, by decide, by decide⟩ (by decide) (by decide) (Nat.le_of_ble_eq_true rfl) (by decide) rfl dX5_copyFrom_51 ?_
  refine r_aload_n C dX5_copyFrom_54 rfl 1 rfl ?_
  refine r_get C in_X5_copyFrom_X5 1 rfl rfl 5 (by decide) lk_X5_copyFrom_10 rfl rfl dX5_copyFrom_55 ?_
  refine r_iconst C 0 dX5_copyFrom_58 (by decide) ?_
  refine r_aload_n C dX5_copyFrom_59 rfl 0 rfl ?_
  refine r_get C in_X5_copyFrom_X5 0 rfl rfl 5 (by decide) lk_X5_copyFrom_10 rfl rfl dX5_copyFrom_60 ?_
  refine r_iconst C 0 dX5_copyFrom_63 (by decide) ?_
  refine r_bipush C 7 dX5_copyFrom_64 (by decide) ?_
  refine r_copyi (ws' := (w_X5_copyFrom cyI cyZ cyW a_this v_p0_families v_p0_quota v_p0_coldCount a_this_kinds a_this_warmths a_this_prices a_this_favourers a_this_colds a_p0 v_p0_families v_p0_quota v_p0_coldCount a_p0_kinds a_p0_warmths a_p0_prices a_p0_favourers a_p0_colds v_p0_kinds (va_cpy v_p0_kinds v_this_kinds 0 0 7) v_p0_warmths (va_cpy v_p0_warmths v_this_warmths 0 0 7) v_p0_prices (va_cpy v_p0_prices v_this_prices 0 0 7) v_p0_favourers v_this_favourers v_p0_colds v_this_colds)) C lk_X5_copyFrom_5 lk_X5_copyFrom_6 lk_X5_copyFrom_7 lk_X5_copyFrom_8 6 7 0 rfl rfl rfl rfl (by decide) (by decide) (by decide) 7 ⟨by decide, by decide, by decide⟩ (by decide) (by decide) (Nat.le_of_ble_eq_true rfl) (by decide) rfl dX5_copyFrom_66 ?_
  refine r_aload_n C dX5_copyFrom_69 rfl 1 rfl ?_
  refine r_get C in_X5_copyFrom_X5 1 rfl rfl 6 (by decide) lk_X5_copyFrom_11 rfl rfl dX5_copyFrom_70 ?_
  refine r_iconst C 0 dX5_copyFrom_73 (by decide) ?_
  refine r_aload_n C dX5_copyFrom_74 rfl 0 rfl ?_
  refine r_get C in_X5_copyFrom_X5 0 rfl rfl 6 (by decide) lk_X5_copyFrom_11 rfl rfl dX5_copyFrom_75 ?_
  refine r_iconst C 0 dX5_copyFrom_78 (by decide) ?_
  refine r_bipush C 7 dX5_copyFrom_79 (by decide) ?_
  refine r_copyi (ws' := (w_X5_copyFrom cyI cyZ cyW a_this v_p0_families v_p0_quota v_p0_coldCount a_this_kinds a_this_warmths a_this_prices a_this_favourers a_this_colds a_p0 v_p0_families v_p0_quota v_p0_coldCount a_p0_kinds a_p0_warmths a_p0_prices a_p0_favourers a_p0_colds v_p0_kinds (va_cpy v_p0_kinds v_this_kinds 0 0 7) v_p0_warmths (va_cpy v_p0_warmths v_this_warmths 0 0 7) v_p0_prices (va_cpy v_p0_prices v_this_prices 0 0 7) v_p0_favourers (va_cpy v_p0_favourers v_this_favourers 0 0 7) v_p0_colds v_this_colds)) C lk_X5_copyFrom_5 lk_X5_copyFrom_6 lk_X5_copyFrom_7 lk_X5_copyFrom_8 8 9 0 rfl rfl rfl rfl (by decide) (by decide) (by decide) 7 ⟨by decide, by decide, by decide⟩ (by decide) (by decide) (Nat.le_of_ble_eq_true rfl) (by decide) rfl dX5_copyFrom_81 ?_
  refine r_aload_n C dX5_copyFrom_84 rfl 1 rfl ?_
  refine r_get C in_X5_copyFrom_X5 1 rfl rfl 7 (by decide) lk_X5_copyFrom_12 rfl rfl dX5_copyFrom_85 ?_
  refine r_iconst C 0 dX5_copyFrom_88 (by decide) ?_
  refine r_aload_n C dX5_copyFrom_89 rfl 0 rfl ?_
  refine r_get C in_X5_copyFrom_X5 0 rfl rfl 7 (by decide) lk_X5_copyFrom_12 rfl rfl dX5_copyFrom_90 ?_
  refine r_iconst C 0 dX5_copyFrom_93 (by decide) ?_
  refine r_bipush C 6 dX5_copyFrom_94 (by decide) ?_
  refine r_copyi (ws' := (w_X5_copyFrom cyI cyZ cyW a_this v_p0_families v_p0_quota v_p0_coldCount a_this_kinds a_this_warmths a_this_prices a_this_favourers a_this_colds a_p0 v_p0_families v_p0_quota v_p0_coldCount a_p0_kinds a_p0_warmths a_p0_prices a_p0_favourers a_p0_colds v_p0_kinds (va_cpy v_p0_kinds v_this_kinds 0 0 7) v_p0_warmths (va_cpy v_p0_warmths v_this_warmths 0 0 7) v_p0_prices (va_cpy v_p0_prices v_this_prices 0 0 7) v_p0_favourers (va_cpy v_p0_favourers v_this_favourers 0 0 7) v_p0_colds (va_cpy v_p0_colds v_this_colds 0 0 6))) C lk_X5_copyFrom_5 lk_X5_copyFrom_6 lk_X5_copyFrom_7 lk_X5_copyFrom_8 10 11 0 rfl rfl rfl rfl (by decide) (by decide) (by decide) 6 ⟨by decide, by decide, by decide⟩ (by decide) (by decide) (Nat.le_of_ble_eq_true rfl) (by decide) rfl dX5_copyFrom_96 ?_
  rw [← Option.some.inj hf]
  exact r_vret C hr hlk dX5_copyFrom_99
