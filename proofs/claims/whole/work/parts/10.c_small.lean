def f_X8_bit (x0 : Int32) : Option (Int32) := some (((1 : Int32) <<< (x0 &&& 31)))
def w_X8_bit (cyI cyZ cyW : ClassId) : va_W := []
set_option maxHeartbeats 4000000 in
set_option maxRecDepth 100000 in
theorem c_X8_bit (l : Launch) (D : va_G) (cyI cyZ cyW : ClassId) (x0 : Int32) (res : Int32) (hf : f_X8_bit x0 = some res) : ∀ sz, Met l yX8_bit wsX8_bit { frames := 0, cells := 0, slots := 0, locals := 0 } (PCx D (tyG cyI cyZ cyW) [.int x0] [] sz) (QI D (tyG cyI cyZ cyW) [] sz res []) 0 0 (va_A [] sz) := by
  intro sz
  refine met_of (cc := cX8_bit) (maxL := 1) (ret := (some .int)) (lv0 := [(0, .int x0)]) (by decide) rfl ⟨(Nat.le_of_ble_eq_true rfl), rfl⟩ ?_
  intro p e s m below meth c C hr hlk hnm hsz
  subst hsz
  have C : CX p s m _ c 1 cX8_bit RX8 wsX8_bit D (tyG cyI cyZ cyW) _ := C
  refine r_iconst C 1 dX8_bit_0 (by decide) ?_
  refine r_iload_n C dX8_bit_1 rfl 0 rfl ?_
  refine r_ishl C dX8_bit_2 ?_
  rw [← Option.some.inj hf]
  exact r_iret C hr hlk dX8_bit_3

def f_X8_holds (x0 : Int32) (x1 : Int32) : Option (Int32) := if ((x0 >>> (x1 &&& 31)) &&& 1) = 1 then (some (1)) else (some (0))
def w_X8_holds (cyI cyZ cyW : ClassId) : va_W := []
set_option maxHeartbeats 4000000 in
set_option maxRecDepth 100000 in
theorem c_X8_holds (l : Launch) (D : va_G) (cyI cyZ cyW : ClassId) (x0 : Int32) (x1 : Int32) (res : Int32) (hf : f_X8_holds x0 x1 = some res) : ∀ sz, Met l yX8_holds wsX8_holds { frames := 0, cells := 0, slots := 0, locals := 0 } (PCx D (tyG cyI cyZ cyW) [.int x0, .int x1] [] sz) (QI D (tyG cyI cyZ cyW) [] sz res []) 0 0 (va_A [] sz) := by
  intro sz
  refine met_of (cc := cX8_holds) (maxL := 2) (ret := (some .boolean)) (lv0 := [(0, .int x0), (1, .int x1)]) (by decide) rfl ⟨(Nat.le_of_ble_eq_true rfl), rfl⟩ ?_
  intro p e s m below meth c C hr hlk hnm hsz
  subst hsz
  have C : CX p s m _ c 2 cX8_holds RX8 wsX8_holds D (tyG cyI cyZ cyW) _ := C
  refine r_iload_n C dX8_holds_0 rfl 0 rfl ?_
  refine r_iload_n C dX8_holds_1 rfl 1 rfl ?_
  refine r_ishr C dX8_holds_2 ?_
  refine r_iconst C 1 dX8_holds_3 (by decide) ?_
  refine r_iand C dX8_holds_4 ?_
  refine r_iconst C 1 dX8_holds_5 (by decide) ?_
  refine r_icmp_ne C 13 dX8_holds_6 (by decide) hf (fun hf => ?_) (fun hf => ?_)
  · refine r_iconst C 0 dX8_holds_13 (by decide) ?_
    rw [← Option.some.inj hf]
    exact r_zret (r := 0) C hr hlk rfl dX8_holds_14
  · refine r_iconst C 1 dX8_holds_9 (by decide) ?_
    refine r_goto C 14 dX8_holds_10 (by decide) ?_
    rw [← Option.some.inj hf]
    exact r_zret (r := 1) C hr hlk rfl dX8_holds_14

theorem hyV_X8_bit : yX8_bit.cls = RX8 ∧ yX8_bit.cls ≠ "java/lang/invoke/MethodHandle" ∧ yX8_bit.cls ≠ "java/lang/invoke/VarHandle" ∧ (parseMethodDescriptor yX8_bit.desc).map (fun d => d.parameters.length) = some 1 := by decide +kernel
theorem hyS_X8_bit : yX8_bit.cls ≠ "java/lang/invoke/MethodHandle" ∧ yX8_bit.cls ≠ "java/lang/invoke/VarHandle" ∧ (parseMethodDescriptor yX8_bit.desc).map (fun d => d.parameters.length) = some 1 := by decide +kernel
def f_X8_with (x0 : Int32) (x1 : Int32) (x2 : Int32) : Option (Int32) := if x2 = 0 then ((f_X8_bit x1).bind fun y1 => some ((x0 &&& (y1 ^^^ (-1))))) else ((f_X8_bit x1).bind fun y3 => some ((x0 ||| y3)))
def w_X8_with (cyI cyZ cyW : ClassId) : va_W := []
set_option maxHeartbeats 4000000 in
set_option maxRecDepth 100000 in
theorem c_X8_with (l : Launch) (D : va_G) (cyI cyZ cyW : ClassId) (x0 : Int32) (x1 : Int32) (x2 : Int32) (res : Int32) (hf : f_X8_with x0 x1 x2 = some res) : ∀ sz, Met l yX8_with wsX8_with { frames := 1, cells := 0, slots := 0, locals := 20 } (PCx D (tyG cyI cyZ cyW) [.int x0, .int x1, .int x2] [] sz) (QI D (tyG cyI cyZ cyW) [] sz res []) 0 0 (va_A [] sz) := by
  intro sz
  refine met_of (cc := cX8_with) (maxL := 3) (ret := (some .int)) (lv0 := [(0, .int x0), (1, .int x1), (2, .int x2)]) (by decide) rfl ⟨(Nat.le_of_ble_eq_true rfl), rfl⟩ ?_
  intro p e s m below meth c C hr hlk hnm hsz
  subst hsz
  have C : CX p s m _ c 3 cX8_with RX8 wsX8_with D (tyG cyI cyZ cyW) _ := C
  refine r_iload_n C dX8_with_0 rfl 2 rfl ?_
  refine r_if_eq C 13 dX8_with_1 (by decide) hf (fun hf => ?_) (fun hf => ?_)
  · refine r_iload_n C dX8_with_13 rfl 0 rfl ?_
    refine r_iload_n C dX8_with_14 rfl 1 rfl ?_
    obtain ⟨y1, hy2, hf⟩ := bd_some hf
    refine r_roS_i (As := [.int x1]) (rest := [.int x0]) C (c_X8_bit l D cyI cyZ cyW x1 y1 hy2) gX8_with_X8_bit rfl hyS_X8_bit ⟨rfl, rfl, (Nat.le_of_ble_eq_true rfl), (Nat.le_of_ble_eq_true rfl)⟩ rfl [] rfl rfl rfl (Nat.le_of_ble_eq_true rfl) ⟨Nat.zero_le _, Nat.zero_le _⟩ dX8_with_15 ?_
    refine r_iconst C (-1) dX8_with_18 (by decide) ?_
    refine r_ixor C dX8_with_19 ?_
    refine r_iand C dX8_with_20 ?_
    rw [← Option.some.inj hf]
    exact r_iret C hr hlk dX8_with_21
  · refine r_iload_n C dX8_with_4 rfl 0 rfl ?_
    refine r_iload_n C dX8_with_5 rfl 1 rfl ?_
    obtain ⟨y3, hy4, hf⟩ := bd_some hf
    refine r_roS_i (As := [.int x1]) (rest := [.int x0]) C (c_X8_bit l D cyI cyZ cyW x1 y3 hy4) gX8_with_X8_bit rfl hyS_X8_bit ⟨rfl, rfl, (Nat.le_of_ble_eq_true rfl), (Nat.le_of_ble_eq_true rfl)⟩ rfl [] rfl rfl rfl (Nat.le_of_ble_eq_true rfl) ⟨Nat.zero_le _, Nat.zero_le _⟩ dX8_with_6 ?_
    refine r_ior C dX8_with_9 ?_
    refine r_goto C 21 dX8_with_10 (by decide) ?_
    rw [← Option.some.inj hf]
    exact r_iret C hr hlk dX8_with_21

def f_X8_isWithin (x0 : Int32) (x1 : Int32) : Option (Int32) := if (x0 &&& (x1 ^^^ (-1))) = 0 then (some (1)) else (some (0))
def w_X8_isWithin (cyI cyZ cyW : ClassId) : va_W := []
set_option maxHeartbeats 4000000 in
set_option maxRecDepth 100000 in
theorem c_X8_isWithin (l : Launch) (D : va_G) (cyI cyZ cyW : ClassId) (x0 : Int32) (x1 : Int32) (res : Int32) (hf : f_X8_isWithin x0 x1 = some res) : ∀ sz, Met l yX8_isWithin wsX8_isWithin { frames := 0, cells := 0, slots := 0, locals := 0 } (PCx D (tyG cyI cyZ cyW) [.int x0, .int x1] [] sz) (QI D (tyG cyI cyZ cyW) [] sz res []) 0 0 (va_A [] sz) := by
  intro sz
  refine met_of (cc := cX8_isWithin) (maxL := 2) (ret := (some .boolean)) (lv0 := [(0, .int x0), (1, .int x1)]) (by decide) rfl ⟨(Nat.le_of_ble_eq_true rfl), rfl⟩ ?_
  intro p e s m below meth c C hr hlk hnm hsz
  subst hsz
  have C : CX p s m _ c 2 cX8_isWithin RX8 wsX8_isWithin D (tyG cyI cyZ cyW) _ := C
  refine r_iload_n C dX8_isWithin_0 rfl 0 rfl ?_
  refine r_iload_n C dX8_isWithin_1 rfl 1 rfl ?_
  refine r_iconst C (-1) dX8_isWithin_2 (by decide) ?_
  refine r_ixor C dX8_isWithin_3 ?_
  refine r_iand C dX8_isWithin_4 ?_
  refine r_if_ne C 12 dX8_isWithin_5 (by decide) hf (fun hf => ?_) (fun hf => ?_)
  · refine r_iconst C 0 dX8_isWithin_12 (by decide) ?_
    rw [← Option.some.inj hf]
    exact r_zret (r := 0) C hr hlk rfl dX8_isWithin_13
  · refine r_iconst C 1 dX8_isWithin_8 (by decide) ?_
    refine r_goto C 13 dX8_isWithin_9 (by decide) ?_
    rw [← Option.some.inj hf]
    exact r_zret (r := 1) C hr hlk rfl dX8_isWithin_13

def f_X8_isYesOrNo_b9 : Option (Int32) := some (1)
def f_X8_isYesOrNo (x0 : Int32) : Option (Int32) := if x0 = 0 then (f_X8_isYesOrNo_b9 ) else (if x0 = 1 then (f_X8_isYesOrNo_b9 ) else (some (0)))
def w_X8_isYesOrNo (cyI cyZ cyW : ClassId) : va_W := []
set_option maxHeartbeats 4000000 in
set_option maxRecDepth 100000 in
theorem c_X8_isYesOrNo (l : Launch) (D : va_G) (cyI cyZ cyW : ClassId) (x0 : Int32) (res : Int32) (hf : f_X8_isYesOrNo x0 = some res) : ∀ sz, Met l yX8_isYesOrNo wsX8_isYesOrNo { frames := 0, cells := 0, slots := 0, locals := 0 } (PCx D (tyG cyI cyZ cyW) [.int x0] [] sz) (QI D (tyG cyI cyZ cyW) [] sz res []) 0 0 (va_A [] sz) := by
  intro sz
  refine met_of (cc := cX8_isYesOrNo) (maxL := 1) (ret := (some .boolean)) (lv0 := [(0, .int x0)]) (by decide) rfl ⟨(Nat.le_of_ble_eq_true rfl), rfl⟩ ?_
  intro p e s m below meth c C hr hlk hnm hsz
  subst hsz
  have C : CX p s m _ c 1 cX8_isYesOrNo RX8 wsX8_isYesOrNo D (tyG cyI cyZ cyW) _ := C
  obtain ⟨Z, hZ⟩ : ∃ Z : va_W → Nat → LV → List Value → Prop, Z = ST p l e { frames := 0, cells := 0, slots := 0, locals := 0 } s m [.int x0].toArray below meth c 1 D (va_A [] s.heap.size) (MQ below (QI D (tyG cyI cyZ cyW) [] s.heap.size res []) [.int x0].toArray s 0 0 (va_A [] s.heap.size)) 0 0 := ⟨_, rfl⟩
  have hb_9 : f_X8_isYesOrNo_b9 = some res → Z [] 9 [] [] := by
    subst hZ
    intro hf
    refine r_iconst C 1 dX8_isYesOrNo_9 (by decide) ?_
    refine r_goto C 14 dX8_isYesOrNo_10 (by decide) ?_
    rw [← Option.some.inj hf]
    exact r_zret (r := 1) C hr hlk rfl dX8_isYesOrNo_14
  subst hZ
  refine r_iload_n C dX8_isYesOrNo_0 rfl 0 rfl ?_
  refine r_if_eq C 9 dX8_isYesOrNo_1 (by decide) hf (fun hf => ?_) (fun hf => ?_)
  · exact ST_lv [] rfl (hb_9 hf)
  · refine r_iload_n C dX8_isYesOrNo_4 rfl 0 rfl ?_
    refine r_iconst C 1 dX8_isYesOrNo_5 (by decide) ?_
    refine r_icmp_ne C 13 dX8_isYesOrNo_6 (by decide) hf (fun hf => ?_) (fun hf => ?_)
    · refine r_iconst C 0 dX8_isYesOrNo_13 (by decide) ?_
      rw [← Option.some.inj hf]
      exact r_zret (r := 0) C hr hlk rfl dX8_isYesOrNo_14
    · exact ST_lv [] rfl (hb_9 hf)

def f_X8_isUnder_b28 : Option (Int32) := some (1)
def f_X8_isUnder (x0 : Int32) (x1 : Int32) : Option (Int32) := if x1 = 0 then (some (1)) else (if x1 = (x0 + 1) then (some (1)) else (if x1 = 1 then (if x0 = 1 then (f_X8_isUnder_b28 ) else (if x0 = 2 then (f_X8_isUnder_b28 ) else (some (0)))) else (some (0))))
def w_X8_isUnder (cyI cyZ cyW : ClassId) : va_W := []
set_option maxHeartbeats 4000000 in
set_option maxRecDepth 100000 in
theorem c_X8_isUnder (l : Launch) (D : va_G) (cyI cyZ cyW : ClassId) (x0 : Int32) (x1 : Int32) (res : Int32) (hf : f_X8_isUnder x0 x1 = some res) : ∀ sz, Met l yX8_isUnder wsX8_isUnder { frames := 0, cells := 0, slots := 0, locals := 0 } (PCx D (tyG cyI cyZ cyW) [.int x0, .int x1] [] sz) (QI D (tyG cyI cyZ cyW) [] sz res []) 0 0 (va_A [] sz) := by
  intro sz
  refine met_of (cc := cX8_isUnder) (maxL := 2) (ret := (some .boolean)) (lv0 := [(0, .int x0), (1, .int x1)]) (by decide) rfl ⟨(Nat.le_of_ble_eq_true rfl), rfl⟩ ?_
  intro p e s m below meth c C hr hlk hnm hsz
  subst hsz
  have C : CX p s m _ c 2 cX8_isUnder RX8 wsX8_isUnder D (tyG cyI cyZ cyW) _ := C
  obtain ⟨Z, hZ⟩ : ∃ Z : va_W → Nat → LV → List Value → Prop, Z = ST p l e { frames := 0, cells := 0, slots := 0, locals := 0 } s m [.int x0, .int x1].toArray below meth c 2 D (va_A [] s.heap.size) (MQ below (QI D (tyG cyI cyZ cyW) [] s.heap.size res []) [.int x0, .int x1].toArray s 0 0 (va_A [] s.heap.size)) 0 0 := ⟨_, rfl⟩
  have hb_28 : f_X8_isUnder_b28 = some res → Z [] 28 [] [] := by
    subst hZ
    intro hf
    refine r_iconst C 1 dX8_isUnder_28 (by decide) ?_
    refine r_goto C 33 dX8_isUnder_29 (by decide) ?_
    rw [← Option.some.inj hf]
    exact r_zret (r := 1) C hr hlk rfl dX8_isUnder_33
  subst hZ
  refine r_iload_n C dX8_isUnder_0 rfl 1 rfl ?_
  refine r_if_eq C 11 dX8_isUnder_1 (by decide) hf (fun hf => ?_) (fun hf => ?_)
  · refine r_iconst C 1 dX8_isUnder_11 (by decide) ?_
    rw [← Option.some.inj hf]
    exact r_zret (r := 1) C hr hlk rfl dX8_isUnder_12
  · refine r_iload_n C dX8_isUnder_4 rfl 1 rfl ?_
    refine r_iload_n C dX8_isUnder_5 rfl 0 rfl ?_
    refine r_iconst C 1 dX8_isUnder_6 (by decide) ?_
    refine r_iadd C dX8_isUnder_7 ?_
    refine r_icmp_ne C 13 dX8_isUnder_8 (by decide) hf (fun hf => ?_) (fun hf => ?_)
    · refine r_iload_n C dX8_isUnder_13 rfl 1 rfl ?_
      refine r_iconst C 1 dX8_isUnder_14 (by decide) ?_
      refine r_icmp_ne C 32 dX8_isUnder_15 (by decide) hf (fun hf => ?_) (fun hf => ?_)
      · refine r_iconst C 0 dX8_isUnder_32 (by decide) ?_
        rw [← Option.some.inj hf]
        exact r_zret (r := 0) C hr hlk rfl dX8_isUnder_33
      · refine r_iload_n C dX8_isUnder_18 rfl 0 rfl ?_
        refine r_iconst C 1 dX8_isUnder_19 (by decide) ?_
        refine r_icmp_eq C 28 dX8_isUnder_20 (by decide) hf (fun hf => ?_) (fun hf => ?_)
        · exact ST_lv [] rfl (hb_28 hf)
        · refine r_iload_n C dX8_isUnder_23 rfl 0 rfl ?_
          refine r_iconst C 2 dX8_isUnder_24 (by decide) ?_
          refine r_icmp_ne C 32 dX8_isUnder_25 (by decide) hf (fun hf => ?_) (fun hf => ?_)
          · refine r_iconst C 0 dX8_isUnder_32 (by decide) ?_
            rw [← Option.some.inj hf]
            exact r_zret (r := 0) C hr hlk rfl dX8_isUnder_33
          · exact ST_lv [] rfl (hb_28 hf)
    · refine r_iconst C 1 dX8_isUnder_11 (by decide) ?_
      rw [← Option.some.inj hf]
      exact r_zret (r := 1) C hr hlk rfl dX8_isUnder_12

theorem lk_X0_add_1 : Cond.fieldLink RX0 15 "ParishCoat$Letters" "length" "I" ∈ wsX0_add := List.mem_of_getElem? (i := 1) rfl
theorem lk_X0_add_2 : Cond.fieldLink RX0 9 "ParishCoat$Letters" "letters" "[I" ∈ wsX0_add := List.mem_of_getElem? (i := 2) rfl
theorem in_X0_add_X0 : ∀ w ∈ u_ws RX0 TX0 2, w ∈ wsX0_add := fun _ h => List.mem_cons_of_mem _ (List.mem_append_right _ h)
def f_X0_add (v_this_length : Int32) (v_this_letters : Nat → Int32) (x1 : Int32) : Option (Int32 × (Nat → Int32)) := if 160 ≤ v_this_length then (some (v_this_length, v_this_letters)) else (gd_ v_this_length 160 (some ((v_this_length + 1), (upd v_this_letters (Int32.toNatClampNeg v_this_length) x1))))
def w_X0_add (cyI cyZ cyW : ClassId) (a_this : Nat) (a_this_letters : Nat) (v_this_length : Int32) (v_this_letters : Nat → Int32) : va_W := [(a_this, .inr (0, [.ref a_this_letters, .int v_this_length])), (a_this_letters, .inl (cyI, 160, .inl v_this_letters))]
set_option maxHeartbeats 4000000 in
set_option maxRecDepth 100000 in
theorem c_X0_add (l : Launch) (D : va_G) (cyI cyZ cyW : ClassId) (a_this : Nat) (a_this_letters : Nat) (v_this_length : Int32) (v_this_letters : Nat → Int32) (x1 : Int32) (res : Int32 × (Nat → Int32)) (hf : f_X0_add v_this_length v_this_letters x1 = some res) : ∀ sz, Met l yX0_add wsX0_add { frames := 0, cells := 0, slots := 0, locals := 0 } (PCx D (tyG cyI cyZ cyW) [.ref a_this, .int x1] (w_X0_add cyI cyZ cyW a_this a_this_letters v_this_length v_this_letters) sz) (QV D (tyG cyI cyZ cyW) (w_X0_add cyI cyZ cyW a_this a_this_letters v_this_length v_this_letters) sz (w_X0_add cyI cyZ cyW a_this a_this_letters res.1 res.2)) 0 0 (va_A (w_X0_add cyI cyZ cyW a_this a_this_letters v_this_length v_this_letters) sz) := by
  intro sz
  refine met_of (cc := cX0_add) (maxL := 2) (ret := none) (lv0 := [(0, .ref a_this), (1, .int x1)]) (by decide) rfl ⟨(Nat.le_of_ble_eq_true rfl), rfl⟩ ?_
  intro p e s m below meth c C hr hlk hnm hsz
  subst hsz
  have C : CX p s m _ c 2 cX0_add RX0 wsX0_add D (tyG cyI cyZ cyW) _ := C
  refine r_aload_n C dX0_add_0 rfl 0 rfl ?_
  refine r_get C in_X0_add_X0 0 rfl rfl 1 (by decide) lk_X0_add_1 rfl rfl dX0_add_1 ?_
  refine r_sipush C 160 dX0_add_4 (by decide) ?_
  refine r_icmp_ge C 30 dX0_add_7 (by decide) hf (fun hf => ?_) (fun hf => ?_)
  · rw [← Option.some.inj hf]
    exact r_vret C hr hlk dX0_add_30
  · refine r_aload_n C dX0_add_10 rfl 0 rfl ?_
    refine r_get C in_X0_add_X0 0 rfl rfl 0 (by decide) lk_X0_add_2 rfl rfl dX0_add_11 ?_
    refine r_aload_n C dX0_add_14 rfl 0 rfl ?_
    refine r_get C in_X0_add_X0 0 rfl rfl 1 (by decide) lk_X0_add_1 rfl rfl dX0_add_15 ?_
    refine r_iload_n C dX0_add_18 rfl 1 rfl ?_
    obtain ⟨hi1, hf⟩ := gd_some hf
    refine r_iast (ws' := (w_X0_add cyI cyZ cyW a_this a_this_letters v_this_length (upd v_this_letters (Int32.toNatClampNeg v_this_length) x1))) C 1 0 rfl rfl hi1 rfl dX0_add_19 ?_
    refine r_aload_n C dX0_add_20 rfl 0 rfl ?_
    refine r_dup C dX0_add_21 rfl ?_
    refine r_get C in_X0_add_X0 0 rfl rfl 1 (by decide) lk_X0_add_1 rfl rfl dX0_add_22 ?_
    refine r_iconst C 1 dX0_add_25 (by decide) ?_
    refine r_iadd C dX0_add_26 ?_
    refine r_put (ws' := (w_X0_add cyI cyZ cyW a_this a_this_letters (v_this_length + 1) (upd v_this_letters (Int32.toNatClampNeg v_this_length) x1))) C in_X0_add_X0 tyX0 tyX0_ok nmX0 0 rfl rfl 1 (by decide) lk_X0_add_1 rfl rfl rfl rfl (Nat.le_of_ble_eq_true rfl) rfl dX0_add_27 ?_
    rw [← Option.some.inj hf]
    exact r_vret C hr hlk dX0_add_30

theorem lk_X0_at_1 : Cond.fieldLink RX0 15 "ParishCoat$Letters" "length" "I" ∈ wsX0_at := List.mem_of_getElem? (i := 1) rfl
theorem lk_X0_at_2 : Cond.fieldLink RX0 9 "ParishCoat$Letters" "letters" "[I" ∈ wsX0_at := List.mem_of_getElem? (i := 2) rfl
theorem in_X0_at_X0 : ∀ w ∈ u_ws RX0 TX0 2, w ∈ wsX0_at := fun _ h => List.mem_cons_of_mem _ (List.mem_append_right _ h)
def f_X0_at (v_this_length : Int32) (v_this_letters : Nat → Int32) (x1 : Int32) : Option (Int32) := if x1 < 0 then (some ((-1))) else (if v_this_length ≤ x1 then (some ((-1))) else (gd_ x1 160 (some ((v_this_letters (Int32.toNatClampNeg x1))))))
def w_X0_at (cyI cyZ cyW : ClassId) (a_this : Nat) (a_this_letters : Nat) (v_this_length : Int32) (v_this_letters : Nat → Int32) : va_W := [(a_this, .inr (0, [.ref a_this_letters, .int v_this_length])), (a_this_letters, .inl (cyI, 160, .inl v_this_letters))]
set_option maxHeartbeats 4000000 in
set_option maxRecDepth 100000 in
theorem c_X0_at (l : Launch) (D : va_G) (cyI cyZ cyW : ClassId) (a_this : Nat) (a_this_letters : Nat) (v_this_length : Int32) (v_this_letters : Nat → Int32) (x1 : Int32) (res : Int32) (hf : f_X0_at v_this_length v_this_letters x1 = some res) : ∀ sz, Met l yX0_at wsX0_at { frames := 0, cells := 0, slots := 0, locals := 0 } (PCx D (tyG cyI cyZ cyW) [.ref a_this, .int x1] (w_X0_at cyI cyZ cyW a_this a_this_letters v_this_length v_this_letters) sz) (QI D (tyG cyI cyZ cyW) (w_X0_at cyI cyZ cyW a_this a_this_letters v_this_length v_this_letters) sz res (w_X0_at cyI cyZ cyW a_this a_this_letters v_this_length v_this_letters)) 0 0 (va_A (w_X0_at cyI cyZ cyW a_this a_this_letters v_this_length v_this_letters) sz) := by
  intro sz
  refine met_of (cc := cX0_at) (maxL := 2) (ret := (some .int)) (lv0 := [(0, .ref a_this), (1, .int x1)]) (by decide) rfl ⟨(Nat.le_of_ble_eq_true rfl), rfl⟩ ?_
  intro p e s m below meth c C hr hlk hnm hsz
  subst hsz
  have C : CX p s m _ c 2 cX0_at RX0 wsX0_at D (tyG cyI cyZ cyW) _ := C
  refine r_iload_n C dX0_at_0 rfl 1 rfl ?_
  refine r_if_lt C 21 dX0_at_1 (by decide) hf (fun hf => ?_) (fun hf => ?_)
  · refine r_iconst C (-1) dX0_at_21 (by decide) ?_
    rw [← Option.some.inj hf]
    exact r_iret C hr hlk dX0_at_22
  · refine r_iload_n C dX0_at_4 rfl 1 rfl ?_
    refine r_aload_n C dX0_at_5 rfl 0 rfl ?_
    refine r_get C in_X0_at_X0 0 rfl rfl 1 (by decide) lk_X0_at_1 rfl rfl dX0_at_6 ?_
    refine r_icmp_ge C 21 dX0_at_9 (by decide) hf (fun hf => ?_) (fun hf => ?_)
    · refine r_iconst C (-1) dX0_at_21 (by decide) ?_
      rw [← Option.some.inj hf]
      exact r_iret C hr hlk dX0_at_22
    · refine r_aload_n C dX0_at_12 rfl 0 rfl ?_
      refine r_get C in_X0_at_X0 0 rfl rfl 0 (by decide) lk_X0_at_2 rfl rfl dX0_at_13 ?_
      refine r_iload_n C dX0_at_16 rfl 1 rfl ?_
      obtain ⟨hi1, hf⟩ := gd_some hf
      refine r_iald C 1 0 rfl rfl hi1 dX0_at_17 ?_
      refine r_goto C 22 dX0_at_18 (by decide) ?_
      rw [← Option.some.inj hf]
      exact r_iret C hr hlk dX0_at_22

theorem lk_J6_bitCount_0f7a4_1 : Cond.constant RJ6 265 (1431655765) ∈ wsJ6_bitCount_0f7a4 := List.mem_of_getElem? (i := 1) rfl
theorem lk_J6_bitCount_0f7a4_2 : Cond.constant RJ6 266 (858993459) ∈ wsJ6_bitCount_0f7a4 := List.mem_of_getElem? (i := 2) rfl
theorem lk_J6_bitCount_0f7a4_3 : Cond.constant RJ6 267 (252645135) ∈ wsJ6_bitCount_0f7a4 := List.mem_of_getElem? (i := 3) rfl
def f_J6_bitCount_0f7a4 (x0 : Int32) : Option (Int32) := some (((((((((x0 - (((Int32.toUInt32 x0 >>> (Int32.toUInt32 1 &&& Int32.toUInt32 31)).toInt32) &&& 1431655765)) &&& 858993459) + (((Int32.toUInt32 (x0 - (((Int32.toUInt32 x0 >>> (Int32.toUInt32 1 &&& Int32.toUInt32 31)).toInt32) &&& 1431655765)) >>> (Int32.toUInt32 2 &&& Int32.toUInt32 31)).toInt32) &&& 858993459)) + ((Int32.toUInt32 (((x0 - (((Int32.toUInt32 x0 >>> (Int32.toUInt32 1 &&& Int32.toUInt32 31)).toInt32) &&& 1431655765)) &&& 858993459) + (((Int32.toUInt32 (x0 - (((Int32.toUInt32 x0 >>> (Int32.toUInt32 1 &&& Int32.toUInt32 31)).toInt32) &&& 1431655765)) >>> (Int32.toUInt32 2 &&& Int32.toUInt32 31)).toInt32) &&& 858993459)) >>> (Int32.toUInt32 4 &&& Int32.toUInt32 31)).toInt32)) &&& 252645135) + ((Int32.toUInt32 (((((x0 - (((Int32.toUInt32 x0 >>> (Int32.toUInt32 1 &&& Int32.toUInt32 31)).toInt32) &&& 1431655765)) &&& 858993459) + (((Int32.toUInt32 (x0 - (((Int32.toUInt32 x0 >>> (Int32.toUInt32 1 &&& Int32.toUInt32 31)).toInt32) &&& 1431655765)) >>> (Int32.toUInt32 2 &&& Int32.toUInt32 31)).toInt32) &&& 858993459)) + ((Int32.toUInt32 (((x0 - (((Int32.toUInt32 x0 >>> (Int32.toUInt32 1 &&& Int32.toUInt32 31)).toInt32) &&& 1431655765)) &&& 858993459) + (((Int32.toUInt32 (x0 - (((Int32.toUInt32 x0 >>> (Int32.toUInt32 1 &&& Int32.toUInt32 31)).toInt32) &&& 1431655765)) >>> (Int32.toUInt32 2 &&& Int32.toUInt32 31)).toInt32) &&& 858993459)) >>> (Int32.toUInt32 4 &&& Int32.toUInt32 31)).toInt32)) &&& 252645135) >>> (Int32.toUInt32 8 &&& Int32.toUInt32 31)).toInt32)) + ((Int32.toUInt32 ((((((x0 - (((Int32.toUInt32 x0 >>> (Int32.toUInt32 1 &&& Int32.toUInt32 31)).toInt32) &&& 1431655765)) &&& 858993459) + (((Int32.toUInt32 (x0 - (((Int32.toUInt32 x0 >>> (Int32.toUInt32 1 &&& Int32.toUInt32 31)).toInt32) &&& 1431655765)) >>> (Int32.toUInt32 2 &&& Int32.toUInt32 31)).toInt32) &&& 858993459)) + ((Int32.toUInt32 (((x0 - (((Int32.toUInt32 x0 >>> (Int32.toUInt32 1 &&& Int32.toUInt32 31)).toInt32) &&& 1431655765)) &&& 858993459) + (((Int32.toUInt32 (x0 - (((Int32.toUInt32 x0 >>> (Int32.toUInt32 1 &&& Int32.toUInt32 31)).toInt32) &&& 1431655765)) >>> (Int32.toUInt32 2 &&& Int32.toUInt32 31)).toInt32) &&& 858993459)) >>> (Int32.toUInt32 4 &&& Int32.toUInt32 31)).toInt32)) &&& 252645135) + ((Int32.toUInt32 (((((x0 - (((Int32.toUInt32 x0 >>> (Int32.toUInt32 1 &&& Int32.toUInt32 31)).toInt32) &&& 1431655765)) &&& 858993459) + (((Int32.toUInt32 (x0 - (((Int32.toUInt32 x0 >>> (Int32.toUInt32 1 &&& Int32.toUInt32 31)).toInt32) &&& 1431655765)) >>> (Int32.toUInt32 2 &&& Int32.toUInt32 31)).toInt32) &&& 858993459)) + ((Int32.toUInt32 (((x0 - (((Int32.toUInt32 x0 >>> (Int32.toUInt32 1 &&& Int32.toUInt32 31)).toInt32) &&& 1431655765)) &&& 858993459) + (((Int32.toUInt32 (x0 - (((Int32.toUInt32 x0 >>> (Int32.toUInt32 1 &&& Int32.toUInt32 31)).toInt32) &&& 1431655765)) >>> (Int32.toUInt32 2 &&& Int32.toUInt32 31)).toInt32) &&& 858993459)) >>> (Int32.toUInt32 4 &&& Int32.toUInt32 31)).toInt32)) &&& 252645135) >>> (Int32.toUInt32 8 &&& Int32.toUInt32 31)).toInt32)) >>> (Int32.toUInt32 16 &&& Int32.toUInt32 31)).toInt32)) &&& 63))
def w_J6_bitCount_0f7a4 (cyI cyZ cyW : ClassId) : va_W := []
set_option maxHeartbeats 4000000 in
set_option maxRecDepth 100000 in
theorem c_J6_bitCount_0f7a4 (l : Launch) (D : va_G) (cyI cyZ cyW : ClassId) (x0 : Int32) (res : Int32) (hf : f_J6_bitCount_0f7a4 x0 = some res) : ∀ sz, Met l yJ6_bitCount_0f7a4 wsJ6_bitCount_0f7a4 { frames := 0, cells := 0, slots := 0, locals := 0 } (PCx D (tyG cyI cyZ cyW) [.int x0] [] sz) (QI D (tyG cyI cyZ cyW) [] sz res []) 0 0 (va_A [] sz) := by
  intro sz
  refine met_of (cc := cJ6_bitCount_0f7a4) (maxL := 1) (ret := (some .int)) (lv0 := [(0, .int x0)]) (by decide) rfl ⟨(Nat.le_of_ble_eq_true rfl), rfl⟩ ?_
  intro p e s m below meth c C hr hlk hnm hsz
  subst hsz
  have C : CX p s m _ c 1 cJ6_bitCount_0f7a4 RJ6 wsJ6_bitCount_0f7a4 D (tyG cyI cyZ cyW) _ := C
  refine r_iload_n C dJ6_bitCount_0f7a4_0 rfl 0 rfl ?_
  refine r_iload_n C dJ6_bitCount_0f7a4_1 rfl 0 rfl ?_
  refine r_iconst C 1 dJ6_bitCount_0f7a4_2 (by decide) ?_
  refine r_iushr C dJ6_bitCount_0f7a4_3 ?_
  refine r_ldc_w C lk_J6_bitCount_0f7a4_1 dJ6_bitCount_0f7a4_4 ?_
  refine r_iand C dJ6_bitCount_0f7a4_7 ?_
  refine r_isub C dJ6_bitCount_0f7a4_8 ?_
  refine r_istore_n (lv' := [(0, .int (x0 - (((Int32.toUInt32 x0 >>> (Int32.toUInt32 1 &&& Int32.toUInt32 31)).toInt32) &&& 1431655765)))]) C dJ6_bitCount_0f7a4_9 rfl (by decide) rfl ?_
  refine r_iload_n C dJ6_bitCount_0f7a4_10 rfl 0 rfl ?_
  refine r_ldc_w C lk_J6_bitCount_0f7a4_2 dJ6_bitCount_0f7a4_11 ?_
  refine r_iand C dJ6_bitCount_0f7a4_14 ?_
  refine r_iload_n C dJ6_bitCount_0f7a4_15 rfl 0 rfl ?_
  refine r_iconst C 2 dJ6_bitCount_0f7a4_16 (by decide) ?_
  refine r_iushr C dJ6_bitCount_0f7a4_17 ?_
  refine r_ldc_w C lk_J6_bitCount_0f7a4_2 dJ6_bitCount_0f7a4_18 ?_
  refine r_iand C dJ6_bitCount_0f7a4_21 ?_
  refine r_iadd C dJ6_bitCount_0f7a4_22 ?_
  refine r_istore_n (lv' := [(0, .int (((x0 - (((Int32.toUInt32 x0 >>> (Int32.toUInt32 1 &&& Int32.toUInt32 31)).toInt32) &&& 1431655765)) &&& 858993459) + (((Int32.toUInt32 (x0 - (((Int32.toUInt32 x0 >>> (Int32.toUInt32 1 &&& Int32.toUInt32 31)).toInt32) &&& 1431655765)) >>> (Int32.toUInt32 2 &&& Int32.toUInt32 31)).toInt32) &&& 858993459)))]) C dJ6_bitCount_0f7a4_23 rfl (by decide) rfl ?_
  refine r_iload_n C dJ6_bitCount_0f7a4_24 rfl 0 rfl ?_
  refine r_iload_n C dJ6_bitCount_0f7a4_25 rfl 0 rfl ?_
  refine r_iconst C 4 dJ6_bitCount_0f7a4_26 (by decide) ?_
  refine r_iushr C dJ6_bitCount_0f7a4_27 ?_
  refine r_iadd C dJ6_bitCount_0f7a4_28 ?_
  refine r_ldc_w C lk_J6_bitCount_0f7a4_3 dJ6_bitCount_0f7a4_29 ?_
  refine r_iand C dJ6_bitCount_0f7a4_32 ?_
  refine r_istore_n (lv' := [(0, .int (((((x0 - (((Int32.toUInt32 x0 >>> (Int32.toUInt32 1 &&& Int32.toUInt32 31)).toInt32) &&& 1431655765)) &&& 858993459) + (((Int32.toUInt32 (x0 - (((Int32.toUInt32 x0 >>> (Int32.toUInt32 1 &&& Int32.toUInt32 31)).toInt32) &&& 1431655765)) >>> (Int32.toUInt32 2 &&& Int32.toUInt32 31)).toInt32) &&& 858993459)) + ((Int32.toUInt32 (((x0 - (((Int32.toUInt32 x0 >>> (Int32.toUInt32 1 &&& Int32.toUInt32 31)).toInt32) &&& 1431655765)) &&& 858993459) + (((Int32.toUInt32 (x0 - (((Int32.toUInt32 x0 >>> (Int32.toUInt32 1 &&& Int32.toUInt32 31)).toInt32) &&& 1431655765)) >>> (Int32.toUInt32 2 &&& Int32.toUInt32 31)).toInt32) &&& 858993459)) >>> (Int32.toUInt32 4 &&& Int32.toUInt32 31)).toInt32)) &&& 252645135))]) C dJ6_bitCount_0f7a4_33 rfl (by decide) rfl ?_
  refine r_iload_n C dJ6_bitCount_0f7a4_34 rfl 0 rfl ?_
  refine r_iload_n C dJ6_bitCount_0f7a4_35 rfl 0 rfl ?_
  refine r_bipush C 8 dJ6_bitCount_0f7a4_36 (by decide) ?_
  refine r_iushr C dJ6_bitCount_0f7a4_38 ?_
  refine r_iadd C dJ6_bitCount_0f7a4_39 ?_
  refine r_istore_n (lv' := [(0, .int ((((((x0 - (((Int32.toUInt32 x0 >>> (Int32.toUInt32 1 &&& Int32.toUInt32 31)).toInt32) &&& 1431655765)) &&& 858993459) + (((Int32.toUInt32 (x0 - (((Int32.toUInt32 x0 >>> (Int32.toUInt32 1 &&& Int32.toUInt32 31)).toInt32) &&& 1431655765)) >>> (Int32.toUInt32 2 &&& Int32.toUInt32 31)).toInt32) &&& 858993459)) + ((Int32.toUInt32 (((x0 - (((Int32.toUInt32 x0 >>> (Int32.toUInt32 1 &&& Int32.toUInt32 31)).toInt32) &&& 1431655765)) &&& 858993459) + (((Int32.toUInt32 (x0 - (((Int32.toUInt32 x0 >>> (Int32.toUInt32 1 &&& Int32.toUInt32 31)).toInt32) &&& 1431655765)) >>> (Int32.toUInt32 2 &&& Int32.toUInt32 31)).toInt32) &&& 858993459)) >>> (Int32.toUInt32 4 &&& Int32.toUInt32 31)).toInt32)) &&& 252645135) + ((Int32.toUInt32 (((((x0 - (((Int32.toUInt32 x0 >>> (Int32.toUInt32 1 &&& Int32.toUInt32 31)).toInt32) &&& 1431655765)) &&& 858993459) + (((Int32.toUInt32 (x0 - (((Int32.toUInt32 x0 >>> (Int32.toUInt32 1 &&& Int32.toUInt32 31)).toInt32) &&& 1431655765)) >>> (Int32.toUInt32 2 &&& Int32.toUInt32 31)).toInt32) &&& 858993459)) + ((Int32.toUInt32 (((x0 - (((Int32.toUInt32 x0 >>> (Int32.toUInt32 1 &&& Int32.toUInt32 31)).toInt32) &&& 1431655765)) &&& 858993459) + (((Int32.toUInt32 (x0 - (((Int32.toUInt32 x0 >>> (Int32.toUInt32 1 &&& Int32.toUInt32 31)).toInt32) &&& 1431655765)) >>> (Int32.toUInt32 2 &&& Int32.toUInt32 31)).toInt32) &&& 858993459)) >>> (Int32.toUInt32 4 &&& Int32.toUInt32 31)).toInt32)) &&& 252645135) >>> (Int32.toUInt32 8 &&& Int32.toUInt32 31)).toInt32)))]) C dJ6_bitCount_0f7a4_40 rfl (by decide) rfl ?_
  refine r_iload_n C dJ6_bitCount_0f7a4_41 rfl 0 rfl ?_
  refine r_iload_n C dJ6_bitCount_0f7a4_42 rfl 0 rfl ?_
  refine r_bipush C 16 dJ6_bitCount_0f7a4_43 (by decide) ?_
  refine r_iushr C dJ6_bitCount_0f7a4_45 ?_
  refine r_iadd C dJ6_bitCount_0f7a4_46 ?_
  refine r_istore_n (lv' := [(0, .int (((((((x0 - (((Int32.toUInt32 x0 >>> (Int32.toUInt32 1 &&& Int32.toUInt32 31)).toInt32) &&& 1431655765)) &&& 858993459) + (((Int32.toUInt32 (x0 - (((Int32.toUInt32 x0 >>> (Int32.toUInt32 1 &&& Int32.toUInt32 31)).toInt32) &&& 1431655765)) >>> (Int32.toUInt32 2 &&& Int32.toUInt32 31)).toInt32) &&& 858993459)) + ((Int32.toUInt32 (((x0 - (((Int32.toUInt32 x0 >>> (Int32.toUInt32 1 &&& Int32.toUInt32 31)).toInt32) &&& 1431655765)) &&& 858993459) + (((Int32.toUInt32 (x0 - (((Int32.toUInt32 x0 >>> (Int32.toUInt32 1 &&& Int32.toUInt32 31)).toInt32) &&& 1431655765)) >>> (Int32.toUInt32 2 &&& Int32.toUInt32 31)).toInt32) &&& 858993459)) >>> (Int32.toUInt32 4 &&& Int32.toUInt32 31)).toInt32)) &&& 252645135) + ((Int32.toUInt32 (((((x0 - (((Int32.toUInt32 x0 >>> (Int32.toUInt32 1 &&& Int32.toUInt32 31)).toInt32) &&& 1431655765)) &&& 858993459) + (((Int32.toUInt32 (x0 - (((Int32.toUInt32 x0 >>> (Int32.toUInt32 1 &&& Int32.toUInt32 31)).toInt32) &&& 1431655765)) >>> (Int32.toUInt32 2 &&& Int32.toUInt32 31)).toInt32) &&& 858993459)) + ((Int32.toUInt32 (((x0 - (((Int32.toUInt32 x0 >>> (Int32.toUInt32 1 &&& Int32.toUInt32 31)).toInt32) &&& 1431655765)) &&& 858993459) + (((Int32.toUInt32 (x0 - (((Int32.toUInt32 x0 >>> (Int32.toUInt32 1 &&& Int32.toUInt32 31)).toInt32) &&& 1431655765)) >>> (Int32.toUInt32 2 &&& Int32.toUInt32 31)).toInt32) &&& 858993459)) >>> (Int32.toUInt32 4 &&& Int32.toUInt32 31)).toInt32)) &&& 252645135) >>> (Int32.toUInt32 8 &&& Int32.toUInt32 31)).toInt32)) + ((Int32.toUInt32 ((((((x0 - (((Int32.toUInt32 x0 >>> (Int32.toUInt32 1 &&& Int32.toUInt32 31)).toInt32) &&& 1431655765)) &&& 858993459) + (((Int32.toUInt32 (x0 - (((Int32.toUInt32 x0 >>> (Int32.toUInt32 1 &&& Int32.toUInt32 31)).toInt32) &&& 1431655765)) >>> (Int32.toUInt32 2 &&& Int32.toUInt32 31)).toInt32) &&& 858993459)) + ((Int32.toUInt32 (((x0 - (((Int32.toUInt32 x0 >>> (Int32.toUInt32 1 &&& Int32.toUInt32 31)).toInt32) &&& 1431655765)) &&& 858993459) + (((Int32.toUInt32 (x0 - (((Int32.toUInt32 x0 >>> (Int32.toUInt32 1 &&& Int32.toUInt32 31)).toInt32) &&& 1431655765)) >>> (Int32.toUInt32 2 &&& Int32.toUInt32 31)).toInt32) &&& 858993459)) >>> (Int32.toUInt32 4 &&& Int32.toUInt32 31)).toInt32)) &&& 252645135) + ((Int32.toUInt32 (((((x0 - (((Int32.toUInt32 x0 >>> (Int32.toUInt32 1 &&& Int32.toUInt32 31)).toInt32) &&& 1431655765)) &&& 858993459) + (((Int32.toUInt32 (x0 - (((Int32.toUInt32 x0 >>> (Int32.toUInt32 1 &&& Int32.toUInt32 31)).toInt32) &&& 1431655765)) >>> (Int32.toUInt32 2 &&& Int32.toUInt32 31)).toInt32) &&& 858993459)) + ((Int32.toUInt32 (((x0 - (((Int32.toUInt32 x0 >>> (Int32.toUInt32 1 &&& Int32.toUInt32 31)).toInt32) &&& 1431655765)) &&& 858993459) + (((Int32.toUInt32 (x0 - (((Int32.toUInt32 x0 >>> (Int32.toUInt32 1 &&& Int32.toUInt32 31)).toInt32) &&& 1431655765)) >>> (Int32.toUInt32 2 &&& Int32.toUInt32 31)).toInt32) &&& 858993459)) >>> (Int32.toUInt32 4 &&& Int32.toUInt32 31)).toInt32)) &&& 252645135) >>> (Int32.toUInt32 8 &&& Int32.toUInt32 31)).toInt32)) >>> (Int32.toUInt32 16 &&& Int32.toUInt32 31)).toInt32)))]) C dJ6_bitCount_0f7a4_47 rfl (by decide) rfl ?_
  refine r_iload_n C dJ6_bitCount_0f7a4_48 rfl 0 rfl ?_
  refine r_bipush C 63 dJ6_bitCount_0f7a4_49 (by decide) ?_
  refine r_iand C dJ6_bitCount_0f7a4_51 ?_
  rw [← Option.some.inj hf]
  exact r_iret C hr hlk dJ6_bitCount_0f7a4_52

def f_X8_commonDivisor_s7 (k_7 : Int32 → Int32 → Int32 → Option (Int32)) (x2 : Int32) (x3 : Int32) (x4 : Int32) : Option (Int32) := if 64 ≤ x4 then (some (x2)) else (if x3 = 0 then (some (x2)) else (nz_ x3 (k_7 x3 (x2 - x2 / x3 * x3) (x4 + 1))))
def f_X8_commonDivisor_b7 (n : Nat) : Int32 → Int32 → Int32 → Option (Int32) := it_ (f_X8_commonDivisor_s7 ) (fun _ _ _ => none) n
def f_X8_commonDivisor (x0 : Int32) (x1 : Int32) : Option (Int32) := f_X8_commonDivisor_b7 5000 x0 x1 0
def w_X8_commonDivisor (cyI cyZ cyW : ClassId) : va_W := []
set_option maxHeartbeats 4000000 in
set_option maxRecDepth 100000 in
theorem c_X8_commonDivisor (l : Launch) (D : va_G) (cyI cyZ cyW : ClassId) (x0 : Int32) (x1 : Int32) (res : Int32) (hf : f_X8_commonDivisor x0 x1 = some res) : ∀ sz, Met l yX8_commonDivisor wsX8_commonDivisor { frames := 0, cells := 0, slots := 0, locals := 0 } (PCx D (tyG cyI cyZ cyW) [.int x0, .int x1] [] sz) (QI D (tyG cyI cyZ cyW) [] sz res []) 0 0 (va_A [] sz) := by
  intro sz
  refine met_of (cc := cX8_commonDivisor) (maxL := 6) (ret := (some .int)) (lv0 := [(0, .int x0), (1, .int x1)]) (by decide) rfl ⟨(Nat.le_of_ble_eq_true rfl), rfl⟩ ?_
  intro p e s m below meth c C hr hlk hnm hsz
  subst hsz
  have C : CX p s m _ c 6 cX8_commonDivisor RX8 wsX8_commonDivisor D (tyG cyI cyZ cyW) _ := C
  obtain ⟨Z, hZ⟩ : ∃ Z : va_W → Nat → LV → List Value → Prop, Z = ST p l e { frames := 0, cells := 0, slots := 0, locals := 0 } s m [.int x0, .int x1].toArray below meth c 6 D (va_A [] s.heap.size) (MQ below (QI D (tyG cyI cyZ cyW) [] s.heap.size res []) [.int x0, .int x1].toArray s 0 0 (va_A [] s.heap.size)) 0 0 := ⟨_, rfl⟩
  have hs_7 : ∀ (k_7 : Int32 → Int32 → Int32 → Option (Int32)), (∀ (x2 : Int32) (x3 : Int32) (x4 : Int32), k_7 x2 x3 x4 = some res → Z [] 7 [(2, .int x2), (3, .int x3), (4, .int x4)] []) → ∀ (x2 : Int32) (x3 : Int32) (x4 : Int32), f_X8_commonDivisor_s7 k_7 x2 x3 x4 = some res → Z [] 7 [(2, .int x2), (3, .int x3), (4, .int x4)] [] := by
    subst hZ
    intro k_7 hk_7 x2 x3 x4 hf
    refine r_iload C dX8_commonDivisor_7 2 rfl ?_
    refine r_bipush C 64 dX8_commonDivisor_9 (by decide) ?_
    refine r_icmp_ge C 34 dX8_commonDivisor_11 (by decide) hf (fun hf => ?_) (fun hf => ?_)
    · refine r_iload_n C dX8_commonDivisor_34 rfl 0 rfl ?_
      rw [← Option.some.inj hf]
      exact r_iret C hr hlk dX8_commonDivisor_35
    · refine r_iload_n C dX8_commonDivisor_14 rfl 1 rfl ?_
      refine r_if_eq C 34 dX8_commonDivisor_15 (by decide) hf (fun hf => ?_) (fun hf => ?_)
      · refine r_iload_n C dX8_commonDivisor_34 rfl 0 rfl ?_
        rw [← Option.some.inj hf]
        exact r_iret C hr hlk dX8_commonDivisor_35
      · refine r_iload_n C dX8_commonDivisor_18 rfl 0 rfl ?_
        refine r_iload_n C dX8_commonDivisor_19 rfl 1 rfl ?_
        obtain ⟨hz1, hf⟩ := nz_some hf
        refine r_irem C dX8_commonDivisor_20 hz1 ?_
        refine r_istore (lv' := [(5, .int (x2 - x2 / x3 * x3)), (2, .int x2), (3, .int x3), (4, .int x4)]) C dX8_commonDivisor_21 (by decide) rfl ?_
        refine r_iload_n C dX8_commonDivisor_23 rfl 2 rfl ?_
        refine r_istore_n (lv' := [(2, .int x3), (5, .int (x2 - x2 / x3 * x3)), (3, .int x3), (4, .int x4)]) C dX8_commonDivisor_24 rfl (by decide) rfl ?_
        refine r_iload C dX8_commonDivisor_25 1 rfl ?_
        refine r_istore_n (lv' := [(3, .int (x2 - x2 / x3 * x3)), (2, .int x3), (5, .int (x2 - x2 / x3 * x3)), (4, .int x4)]) C dX8_commonDivisor_27 rfl (by decide) rfl ?_
        refine r_iinc (v := 1) (k := 3) (lv' := [(4, .int (x4 + 1)), (3, .int (x2 - x2 / x3 * x3)), (2, .int x3), (5, .int (x2 - x2 / x3 * x3))]) C dX8_commonDivisor_28 rfl (by decide) (by decide) rfl ?_
        refine r_goto C 7 dX8_commonDivisor_31 (by decide) ?_
        exact ST_lv [2, 1, 0] rfl (hk_7 x3 (x2 - x2 / x3 * x3) (x4 + 1) hf)
  have hb_7 : ∀ (n : Nat) (x2 : Int32) (x3 : Int32) (x4 : Int32), f_X8_commonDivisor_b7 n x2 x3 x4 = some res → Z [] 7 [(2, .int x2), (3, .int x3), (4, .int x4)] [] := by
    intro  n
    induction n with
    | zero => intro x2 x3 x4 hf; exact nn_ hf
    | succ n ih => exact fun x2 x3 x4 hf => hs_7 _ ih x2 x3 x4 hf
  subst hZ
  refine r_iload_n C dX8_commonDivisor_0 rfl 0 rfl ?_
  refine r_istore_n (lv' := [(2, .int x0), (0, .int x0), (1, .int x1)]) C dX8_commonDivisor_1 rfl (by decide) rfl ?_
  refine r_iload_n C dX8_commonDivisor_2 rfl 2 rfl ?_
  refine r_istore_n (lv' := [(3, .int x1), (2, .int x0), (0, .int x0), (1, .int x1)]) C dX8_commonDivisor_3 rfl (by decide) rfl ?_
  refine r_iconst C 0 dX8_commonDivisor_4 (by decide) ?_
  refine r_istore (lv' := [(4, .int 0), (3, .int x1), (2, .int x0), (0, .int x0), (1, .int x1)]) C dX8_commonDivisor_5 (by decide) rfl ?_
  exact ST_lv [2, 1, 0] rfl (hb_7 5000 x0 x1 0 hf)

theorem hyV_X8_commonDivisor : yX8_commonDivisor.cls = RX8 ∧ yX8_commonDivisor.cls ≠ "java/lang/invoke/MethodHandle" ∧ yX8_commonDivisor.cls ≠ "java/lang/invoke/VarHandle" ∧ (parseMethodDescriptor yX8_commonDivisor.desc).map (fun d => d.parameters.length) = some 2 := by decide +kernel
theorem hyS_X8_commonDivisor : yX8_commonDivisor.cls ≠ "java/lang/invoke/MethodHandle" ∧ yX8_commonDivisor.cls ≠ "java/lang/invoke/VarHandle" ∧ (parseMethodDescriptor yX8_commonDivisor.desc).map (fun d => d.parameters.length) = some 2 := by decide +kernel
def f_X8_partOf_b21 (x3 : Int32) (s0 : Int32) : Option (Int32) := nz_ x3 (some ((s0 / x3)))
def f_X8_partOf (x0 : Int32) (x1 : Int32) (x2 : Int32) : Option (Int32) := (f_X8_commonDivisor x0 x1).bind fun y1 => if y1 = 0 then (some (0)) else (if x2 = 0 then (f_X8_partOf_b21 y1 x0) else (f_X8_partOf_b21 y1 x1))
def w_X8_partOf (cyI cyZ cyW : ClassId) : va_W := []
set_option maxHeartbeats 4000000 in
set_option maxRecDepth 100000 in
theorem c_X8_partOf (l : Launch) (D : va_G) (cyI cyZ cyW : ClassId) (x0 : Int32) (x1 : Int32) (x2 : Int32) (res : Int32) (hf : f_X8_partOf x0 x1 x2 = some res) : ∀ sz, Met l yX8_partOf wsX8_partOf { frames := 1, cells := 0, slots := 0, locals := 25 } (PCx D (tyG cyI cyZ cyW) [.int x0, .int x1, .int x2] [] sz) (QI D (tyG cyI cyZ cyW) [] sz res []) 0 0 (va_A [] sz) := by
  intro sz
  refine met_of (cc := cX8_partOf) (maxL := 4) (ret := (some .int)) (lv0 := [(0, .int x0), (1, .int x1), (2, .int x2)]) (by decide) rfl ⟨(Nat.le_of_ble_eq_true rfl), rfl⟩ ?_
  intro p e s m below meth c C hr hlk hnm hsz
  subst hsz
  have C : CX p s m _ c 4 cX8_partOf RX8 wsX8_partOf D (tyG cyI cyZ cyW) _ := C
  obtain ⟨Z, hZ⟩ : ∃ Z : va_W → Nat → LV → List Value → Prop, Z = ST p l e { frames := 1, cells := 0, slots := 0, locals := 25 } s m [.int x0, .int x1, .int x2].toArray below meth c 4 D (va_A [] s.heap.size) (MQ below (QI D (tyG cyI cyZ cyW) [] s.heap.size res []) [.int x0, .int x1, .int x2].toArray s 0 0 (va_A [] s.heap.size)) 0 0 := ⟨_, rfl⟩
  have hb_21 : ∀ (x3 : Int32) (s0 : Int32), f_X8_partOf_b21 x3 s0 = some res → Z [] 21 [(3, .int x3)] [.int s0] := by
    subst hZ
    intro x3 s0 hf
    refine r_iload_n C dX8_partOf_21 rfl 0 rfl ?_
    obtain ⟨hz3, hf⟩ := nz_some hf
    refine r_idiv C dX8_partOf_22 hz3 ?_
    rw [← Option.some.inj hf]
    exact r_iret C hr hlk dX8_partOf_23
  subst hZ
  refine r_iload_n C dX8_partOf_0 rfl 0 rfl ?_
  refine r_iload_n C dX8_partOf_1 rfl 1 rfl ?_
  obtain ⟨y1, hy2, hf⟩ := bd_some hf
  refine r_roS_i (As := [.int x0, .int x1]) (rest := []) C (c_X8_commonDivisor l D cyI cyZ cyW x0 x1 y1 hy2) gX8_partOf_X8_commonDivisor rfl hyS_X8_commonDivisor ⟨rfl, rfl, (Nat.le_of_ble_eq_true rfl), (Nat.le_of_ble_eq_true rfl)⟩ rfl [] rfl rfl rfl (Nat.le_of_ble_eq_true rfl) ⟨Nat.zero_le _, Nat.zero_le _⟩ dX8_partOf_2 ?_
  refine r_istore_n (lv' := [(3, .int y1), (0, .int x0), (1, .int x1), (2, .int x2)]) C dX8_partOf_5 rfl (by decide) rfl ?_
  refine r_iload_n C dX8_partOf_6 rfl 0 rfl ?_
  refine r_if_ne C 12 dX8_partOf_7 (by decide) hf (fun hf => ?_) (fun hf => ?_)
  · refine r_iload_n C dX8_partOf_12 rfl 3 rfl ?_
    refine r_if_ne C 20 dX8_partOf_13 (by decide) hf (fun hf => ?_) (fun hf => ?_)
    · refine r_iload_n C dX8_partOf_20 rfl 2 rfl ?_
      exact ST_lv [0] rfl (hb_21 y1 x1 hf)
    · refine r_iload_n C dX8_partOf_16 rfl 1 rfl ?_
      refine r_goto C 21 dX8_partOf_17 (by decide) ?_
      exact ST_lv [0] rfl (hb_21 y1 x0 hf)
  · refine r_iconst C 0 dX8_partOf_10 (by decide) ?_
    rw [← Option.some.inj hf]
    exact r_iret C hr hlk dX8_partOf_11

def f_J7_fill_53178_s5 (k_5 : Int32 → Int32 → Int32 → (Nat → Int32) → Option ((Nat → Int32))) (x1 : Int32) (x2 : Int32) (x3 : Int32) (v_p0 : Nat → Int32) : Option ((Nat → Int32)) := if x3 ≤ x2 then (some (v_p0)) else (gd_ x2 7 (k_5 x1 (x2 + 1) x3 (upd v_p0 (Int32.toNatClampNeg x2) x1)))
def f_J7_fill_53178_b5 (n : Nat) : Int32 → Int32 → Int32 → (Nat → Int32) → Option ((Nat → Int32)) := it_ (f_J7_fill_53178_s5 ) (fun _ _ _ _ => none) n
def f_J7_fill_53178 (v_p0 : Nat → Int32) (x1 : Int32) : Option ((Nat → Int32)) := f_J7_fill_53178_b5 5000 x1 0 7 v_p0
def w_J7_fill_53178 (cyI cyZ cyW : ClassId) (a_p0 : Nat) (v_p0 : Nat → Int32) : va_W := [(a_p0, .inl (cyI, 7, .inl v_p0))]
set_option maxHeartbeats 4000000 in
set_option maxRecDepth 100000 in
theorem c_J7_fill_53178 (l : Launch) (D : va_G) (cyI cyZ cyW : ClassId) (a_p0 : Nat) (v_p0 : Nat → Int32) (x1 : Int32) (res : (Nat → Int32)) (hf : f_J7_fill_53178 v_p0 x1 = some res) : ∀ sz, Met l yJ7_fill_53178 wsJ7_fill_53178 { frames := 0, cells := 0, slots := 0, locals := 0 } (PCx D (tyG cyI cyZ cyW) [.ref a_p0, .int x1] (w_J7_fill_53178 cyI cyZ cyW a_p0 v_p0) sz) (QV D (tyG cyI cyZ cyW) (w_J7_fill_53178 cyI cyZ cyW a_p0 v_p0) sz (w_J7_fill_53178 cyI cyZ cyW a_p0 res)) 0 0 (va_A (w_J7_fill_53178 cyI cyZ cyW a_p0 v_p0) sz) := by
  intro sz
  refine met_of (cc := cJ7_fill_53178) (maxL := 4) (ret := none) (lv0 := [(0, .ref a_p0), (1, .int x1)]) (by decide) rfl ⟨(Nat.le_of_ble_eq_true rfl), rfl⟩ ?_
  intro p e s m below meth c C hr hlk hnm hsz
  subst hsz
  have C : CX p s m _ c 4 cJ7_fill_53178 RJ7 wsJ7_fill_53178 D (tyG cyI cyZ cyW) _ := C
  obtain ⟨Z, hZ⟩ : ∃ Z : va_W → Nat → LV → List Value → Prop, Z = ST p l e { frames := 0, cells := 0, slots := 0, locals := 0 } s m [.ref a_p0, .int x1].toArray below meth c 4 D (va_A (w_J7_fill_53178 cyI cyZ cyW a_p0 v_p0) s.heap.size) (MQ below (QV D (tyG cyI cyZ cyW) (w_J7_fill_53178 cyI cyZ cyW a_p0 v_p0) s.heap.size (w_J7_fill_53178 cyI cyZ cyW a_p0 res)) [.ref a_p0, .int x1].toArray s 0 0 (va_A (w_J7_fill_53178 cyI cyZ cyW a_p0 v_p0) s.heap.size)) 0 0 := ⟨_, rfl⟩
  have hs_5 : ∀ (k_5 : Int32 → Int32 → Int32 → (Nat → Int32) → Option ((Nat → Int32))), (∀ (x1 : Int32) (x2 : Int32) (x3 : Int32) (v_p0 : Nat → Int32), k_5 x1 x2 x3 v_p0 = some res → Z (w_J7_fill_53178 cyI cyZ cyW a_p0 v_p0) 5 [(0, .ref a_p0), (1, .int x1), (2, .int x2), (3, .int x3)] []) → ∀ (x1 : Int32) (x2 : Int32) (x3 : Int32) (v_p0 : Nat → Int32), f_J7_fill_53178_s5 k_5 x1 x2 x3 v_p0 = some res → Z (w_J7_fill_53178 cyI cyZ cyW a_p0 v_p0) 5 [(0, .ref a_p0), (1, .int x1), (2, .int x2), (3, .int x3)] [] := by
    subst hZ
    intro k_5 hk_5 x1 x2 x3 v_p0 hf
    refine r_iload_n C dJ7_fill_53178_5 rfl 2 rfl ?_
    refine r_iload_n C dJ7_fill_53178_6 rfl 3 rfl ?_
    refine r_icmp_ge C 20 dJ7_fill_53178_7 (by decide) hf (fun hf => ?_) (fun hf => ?_)
    · rw [← Option.some.inj hf]
      exact r_vret C hr hlk dJ7_fill_53178_20
    · refine r_aload_n C dJ7_fill_53178_10 rfl 0 rfl ?_
      refine r_iload_n C dJ7_fill_53178_11 rfl 2 rfl ?_
      refine r_iload_n C dJ7_fill_53178_12 rfl 1 rfl ?_
      obtain ⟨hi1, hf⟩ := gd_some hf
      refine r_iast (ws' := (w_J7_fill_53178 cyI cyZ cyW a_p0 (upd v_p0 (Int32.toNatClampNeg x2) x1))) C 0 0 rfl rfl hi1 rfl dJ7_fill_53178_13 ?_
      refine r_iinc (v := 1) (k := 2) (lv' := [(2, .int (x2 + 1)), (0, .ref a_p0), (1, .int x1), (3, .int x3)]) C dJ7_fill_53178_14 rfl (by decide) (by decide) rfl ?_
      refine r_goto C 5 dJ7_fill_53178_17 (by decide) ?_
      exact ST_lv [1, 2, 0, 3] rfl (hk_5 x1 (x2 + 1) x3 (upd v_p0 (Int32.toNatClampNeg x2) x1) hf)
  have hb_5 : ∀ (n : Nat) (x1 : Int32) (x2 : Int32) (x3 : Int32) (v_p0 : Nat → Int32), f_J7_fill_53178_b5 n x1 x2 x3 v_p0 = some res → Z (w_J7_fill_53178 cyI cyZ cyW a_p0 v_p0) 5 [(0, .ref a_p0), (1, .int x1), (2, .int x2), (3, .int x3)] [] := by
    intro  n
    induction n with
    | zero => intro x1 x2 x3 v_p0 hf; exact nn_ hf
    | succ n ih => exact fun x1 x2 x3 v_p0 hf => hs_5 _ ih x1 x2 x3 v_p0 hf
  subst hZ
  refine r_iconst C 0 dJ7_fill_53178_0 (by decide) ?_
  refine r_istore_n (lv' := [(2, .int 0), (0, .ref a_p0), (1, .int x1)]) C dJ7_fill_53178_1 rfl (by decide) rfl ?_
  refine r_aload_n C dJ7_fill_53178_2 rfl 1 rfl ?_
  refine r_alen (v := 7) C 0 0 rfl rfl rfl dJ7_fill_53178_3 ?_
  refine r_istore_n (lv' := [(3, .int 7), (2, .int 0), (0, .ref a_p0), (1, .int x1)]) C dJ7_fill_53178_4 rfl (by decide) rfl ?_
  exact ST_lv [2, 3, 1, 0] rfl (hb_5 5000 x1 0 7 v_p0 hf)
