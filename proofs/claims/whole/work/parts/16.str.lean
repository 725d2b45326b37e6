theorem hyV_J0_coder_7d493 : yJ0_coder_7d493.cls = RJ0 ∧ yJ0_coder_7d493.cls ≠ "java/lang/invoke/MethodHandle" ∧ yJ0_coder_7d493.cls ≠ "java/lang/invoke/VarHandle" ∧ (parseMethodDescriptor yJ0_coder_7d493.desc).map (fun d => d.parameters.length) = some 0 := by decide +kernel
theorem hyV_J0_isLatin1_aae02 : yJ0_isLatin1_aae02.cls = RJ0 ∧ yJ0_isLatin1_aae02.cls ≠ "java/lang/invoke/MethodHandle" ∧ yJ0_isLatin1_aae02.cls ≠ "java/lang/invoke/VarHandle" ∧ (parseMethodDescriptor yJ0_isLatin1_aae02.desc).map (fun d => d.parameters.length) = some 0 := by decide +kernel
theorem hyV_J0_length_8abf5 : yJ0_length_8abf5.cls = RJ0 ∧ yJ0_length_8abf5.cls ≠ "java/lang/invoke/MethodHandle" ∧ yJ0_length_8abf5.cls ≠ "java/lang/invoke/VarHandle" ∧ (parseMethodDescriptor yJ0_length_8abf5.desc).map (fun d => d.parameters.length) = some 0 := by decide +kernel
theorem hyV_J0_charAt_5068e : yJ0_charAt_5068e.cls = RJ0 ∧ yJ0_charAt_5068e.cls ≠ "java/lang/invoke/MethodHandle" ∧ yJ0_charAt_5068e.cls ≠ "java/lang/invoke/VarHandle" ∧ (parseMethodDescriptor yJ0_charAt_5068e.desc).map (fun d => d.parameters.length) = some 1 := by decide +kernel
theorem hyS_J0_checkIndex_df160 : yJ0_checkIndex_df160.cls ≠ "java/lang/invoke/MethodHandle" ∧ yJ0_checkIndex_df160.cls ≠ "java/lang/invoke/VarHandle" ∧ (parseMethodDescriptor yJ0_checkIndex_df160.desc).map (fun d => d.parameters.length) = some 2 := by decide +kernel
theorem hyS_J3_checkIndex_8e157 : yJ3_checkIndex_8e157.cls ≠ "java/lang/invoke/MethodHandle" ∧ yJ3_checkIndex_8e157.cls ≠ "java/lang/invoke/VarHandle" ∧ (parseMethodDescriptor yJ3_checkIndex_8e157.desc).map (fun d => d.parameters.length) = some 3 := by decide +kernel
theorem hyS_J1_charAt_3b067 : yJ1_charAt_3b067.cls ≠ "java/lang/invoke/MethodHandle" ∧ yJ1_charAt_3b067.cls ≠ "java/lang/invoke/VarHandle" ∧ (parseMethodDescriptor yJ1_charAt_3b067.desc).map (fun d => d.parameters.length) = some 2 := by decide +kernel
set_option maxHeartbeats 4000000 in
set_option maxRecDepth 100000 in
theorem c_J0_coder_7d493 (l : Launch) (D : va_G) (cyI cyZ cyW : ClassId) (N : Nat) (b : Nat → Int32) (a : Nat) : ∀ sz, Met l yJ0_coder_7d493 wsJ0_coder_7d493 { frames := 0, cells := 0, slots := 0, locals := 0 } (PCe D (tyG cyI cyZ cyW) (STR N b a) [.ref a] [] sz) (QI D (tyG cyI cyZ cyW) [] sz 0 []) 0 0 (va_A [] sz) := by
  intro sz
  refine met_ofE (cc := cJ0_coder_7d493) (maxL := 1) (ret := (some .byte)) (lv0 := [(0, .ref a)]) (by decide) rfl ⟨(Nat.le_of_ble_eq_true rfl), rfl⟩ ?_
  intro p e s m below meth c C hE hr hlk hnm hsz
  subst hsz
  have C : CX p s m _ c 1 cJ0_coder_7d493 RJ0 wsJ0_coder_7d493 D (tyG cyI cyZ cyW) _ := C
  obtain ⟨v, h1, h2, h3, h4, h5, h6⟩ := hE
  refine r_gets C h5 (List.mem_of_getElem? (i := 1) rfl) rfl dJ0_coder_7d493_0 ?_
  refine r_if_eq_f C 13 dJ0_coder_7d493_3 (by decide) (by decide) ?_
  refine r_aload_n C dJ0_coder_7d493_6 rfl 0 rfl ?_
  refine r_getO C h2 (List.mem_of_getElem? (i := 2) rfl) rfl dJ0_coder_7d493_7 ?_
  refine r_goto C 14 dJ0_coder_7d493_10 (by decide) ?_
  exact r_zret (r := 0) C hr hlk rfl dJ0_coder_7d493_14
set_option maxHeartbeats 4000000 in
set_option maxRecDepth 100000 in
theorem c_J0_isLatin1_aae02 (l : Launch) (D : va_G) (cyI cyZ cyW : ClassId) (N : Nat) (b : Nat → Int32) (a : Nat) : ∀ sz, Met l yJ0_isLatin1_aae02 wsJ0_isLatin1_aae02 { frames := 0, cells := 0, slots := 0, locals := 0 } (PCe D (tyG cyI cyZ cyW) (STR N b a) [.ref a] [] sz) (QI D (tyG cyI cyZ cyW) [] sz 1 []) 0 0 (va_A [] sz) := by
  intro sz
  refine met_ofE (cc := cJ0_isLatin1_aae02) (maxL := 1) (ret := (some .boolean)) (lv0 := [(0, .ref a)]) (by decide) rfl ⟨(Nat.le_of_ble_eq_true rfl), rfl⟩ ?_
  intro p e s m below meth c C hE hr hlk hnm hsz
  subst hsz
  have C : CX p s m _ c 1 cJ0_isLatin1_aae02 RJ0 wsJ0_isLatin1_aae02 D (tyG cyI cyZ cyW) _ := C
  obtain ⟨v, h1, h2, h3, h4, h5, h6⟩ := hE
  refine r_gets C h5 (List.mem_of_getElem? (i := 1) rfl) rfl dJ0_isLatin1_aae02_0 ?_
  refine r_if_eq_f C 17 dJ0_isLatin1_aae02_3 (by decide) (by decide) ?_
  refine r_aload_n C dJ0_isLatin1_aae02_6 rfl 0 rfl ?_
  refine r_getO C h2 (List.mem_of_getElem? (i := 2) rfl) rfl dJ0_isLatin1_aae02_7 ?_
  refine r_if_ne_f C 17 dJ0_isLatin1_aae02_10 (by decide) rfl ?_
  refine r_iconst C 1 dJ0_isLatin1_aae02_13 (by decide) ?_
  refine r_goto C 18 dJ0_isLatin1_aae02_14 (by decide) ?_
  exact r_zret (r := 1) C hr hlk rfl dJ0_isLatin1_aae02_18
set_option maxHeartbeats 4000000 in
set_option maxRecDepth 100000 in
theorem c_J0_length_8abf5 (l : Launch) (D : va_G) (cyI cyZ cyW : ClassId) (N : Nat) (b : Nat → Int32) (a : Nat) : ∀ sz, Met l yJ0_length_8abf5 wsJ0_length_8abf5 { frames := 1, cells := 0, slots := 0, locals := 20 } (PCe D (tyG cyI cyZ cyW) (STR N b a) [.ref a] [] sz) (QI D (tyG cyI cyZ cyW) [] sz (Int32.ofNat N >>> ((0 : Int32) &&& 31)) []) 0 0 (va_A [] sz) := by
  intro sz
  refine met_ofE (cc := cJ0_length_8abf5) (maxL := 1) (ret := (some .int)) (lv0 := [(0, .ref a)]) (by decide) rfl ⟨(Nat.le_of_ble_eq_true rfl), rfl⟩ ?_
  intro p e s m below meth c C hE hr hlk hnm hsz
  subst hsz
  have C : CX p s m _ c 1 cJ0_length_8abf5 RJ0 wsJ0_length_8abf5 D (tyG cyI cyZ cyW) _ := C
  obtain ⟨v, h1, h2, h3, h4, h5, h6⟩ := id hE
  refine r_aload_n C dJ0_length_8abf5_0 rfl 0 rfl ?_
  refine r_getO C h3 (List.mem_of_getElem? (i := 1) rfl) rfl dJ0_length_8abf5_1 ?_
  refine r_tlen C h4 dJ0_length_8abf5_4 ?_
  refine r_aload_n C dJ0_length_8abf5_5 rfl 0 rfl ?_
  refine r_roVO_i (As := []) (rest := [.int (Int32.ofNat N)]) C (OP_STR N b a) hE (c_J0_coder_7d493 l D cyI cyZ cyW N b a) gJ0_length_8abf5_J0_coder_7d493 rfl hyV_J0_coder_7d493 ⟨rfl, rfl, (Nat.le_of_ble_eq_true rfl), (Nat.le_of_ble_eq_true rfl)⟩ rfl h1 [] rfl rfl rfl (Nat.le_of_ble_eq_true rfl) ⟨Nat.zero_le _, Nat.zero_le _⟩ dJ0_length_8abf5_6 ?_
  refine r_ishr C dJ0_length_8abf5_9 ?_
  exact r_iret C hr hlk dJ0_length_8abf5_10
set_option maxHeartbeats 4000000 in
set_option maxRecDepth 100000 in
theorem c_J3_checkIndex_8e157 (l : Launch) (D : va_G) (cyI cyZ cyW : ClassId) (i n : Int32) (x : Value) (hx : x = .null ∨ ∃ r, x = .ref r) (h0 : ¬ i < 0) (h1 : i < n) : ∀ sz, Met l yJ3_checkIndex_8e157 wsJ3_checkIndex_8e157 { frames := 0, cells := 0, slots := 0, locals := 0 } (PCx D (tyG cyI cyZ cyW) [.int i, .int n, x] [] sz) (QI D (tyG cyI cyZ cyW) [] sz i []) 0 0 (va_A [] sz) := by
  rcases hx with rfl | ⟨r, rfl⟩
  · intro sz
    refine met_of (cc := cJ3_checkIndex_8e157) (maxL := 3) (ret := (some .int)) (lv0 := [(0, .int i), (1, .int n), (2, .null)]) (by decide) rfl ⟨(Nat.le_of_ble_eq_true rfl), rfl⟩ ?_
    intro p e s m below meth c C hr hlk hnm hsz
    subst hsz
    have C : CX p s m _ c 3 cJ3_checkIndex_8e157 RJ3 wsJ3_checkIndex_8e157 D (tyG cyI cyZ cyW) _ := C
    refine r_iload_n C dJ3_checkIndex_8e157_0 rfl 0 rfl ?_
    refine r_if_lt_f C 9 dJ3_checkIndex_8e157_1 (by decide) h0 ?_
    refine r_iload_n C dJ3_checkIndex_8e157_4 rfl 0 rfl ?_
    refine r_iload_n C dJ3_checkIndex_8e157_5 rfl 1 rfl ?_
    refine r_icmp_lt_t C 16 dJ3_checkIndex_8e157_6 (by decide) h1 ?_
    refine r_iload_n C dJ3_checkIndex_8e157_16 rfl 0 rfl ?_
    exact r_iret C hr hlk dJ3_checkIndex_8e157_17
  · intro sz
    refine met_of (cc := cJ3_checkIndex_8e157) (maxL := 3) (ret := (some .int)) (lv0 := [(0, .int i), (1, .int n), (2, .ref r)]) (by decide) rfl ⟨(Nat.le_of_ble_eq_true rfl), rfl⟩ ?_
    intro p e s m below meth c C hr hlk hnm hsz
    subst hsz
    have C : CX p s m _ c 3 cJ3_checkIndex_8e157 RJ3 wsJ3_checkIndex_8e157 D (tyG cyI cyZ cyW) _ := C
    refine r_iload_n C dJ3_checkIndex_8e157_0 rfl 0 rfl ?_
    refine r_if_lt_f C 9 dJ3_checkIndex_8e157_1 (by decide) h0 ?_
    refine r_iload_n C dJ3_checkIndex_8e157_4 rfl 0 rfl ?_
    refine r_iload_n C dJ3_checkIndex_8e157_5 rfl 1 rfl ?_
    refine r_icmp_lt_t C 16 dJ3_checkIndex_8e157_6 (by decide) h1 ?_
    refine r_iload_n C dJ3_checkIndex_8e157_16 rfl 0 rfl ?_
    exact r_iret C hr hlk dJ3_checkIndex_8e157_17
set_option maxHeartbeats 4000000 in
set_option maxRecDepth 100000 in
theorem c_J0_checkIndex_df160 (l : Launch) (D : va_G) (cyI cyZ cyW : ClassId) (N : Nat) (b : Nat → Int32) (v : Nat) (i n : Int32) (h0 : ¬ i < 0) (h1 : i < n) : ∀ sz, Met l yJ0_checkIndex_df160 wsJ0_checkIndex_df160 { frames := 1, cells := 0, slots := 0, locals := 22 } (PCe D (tyG cyI cyZ cyW) (STV N b v) [.int i, .int n] [] sz) (QV D (tyG cyI cyZ cyW) [] sz []) 0 0 (va_A [] sz) := by
  intro sz
  refine met_ofE (cc := cJ0_checkIndex_df160) (maxL := 2) (ret := none) (lv0 := [(0, .int i), (1, .int n)]) (by decide) rfl ⟨(Nat.le_of_ble_eq_true rfl), rfl⟩ ?_
  intro p e s m below meth c C hE hr hlk hnm hsz
  subst hsz
  have C : CX p s m _ c 2 cJ0_checkIndex_df160 RJ0 wsJ0_checkIndex_df160 D (tyG cyI cyZ cyW) _ := C
  obtain ⟨h4, h5, h6⟩ := hE
  obtain ⟨x, hx, h6⟩ : ∃ x : Value, (x = .null ∨ ∃ r, x = .ref r) ∧ va_Z RJ3 "SIOOBE_FORMATTER" "Ljava/util/function/BiFunction;" x (va_A [] s.heap.size) s s.heap := by
    rcases h6 with h6 | ⟨t, h6⟩
    · exact ⟨_, Or.inl rfl, h6⟩
    · exact ⟨_, Or.inr ⟨t, rfl⟩, h6⟩
  refine r_iload_n C dJ0_checkIndex_df160_0 rfl 0 rfl ?_
  refine r_iload_n C dJ0_checkIndex_df160_1 rfl 1 rfl ?_
  refine r_gets C h6 (List.mem_of_getElem? (i := 1) rfl) rfl dJ0_checkIndex_df160_2 ?_
  refine r_roS_i (As := [.int i, .int n, x]) (rest := []) C (c_J3_checkIndex_8e157 l D cyI cyZ cyW i n x hx h0 h1) gJ0_checkIndex_df160_J3_checkIndex_8e157 rfl hyS_J3_checkIndex_8e157 ⟨rfl, rfl, (Nat.le_of_ble_eq_true rfl), (Nat.le_of_ble_eq_true rfl)⟩ rfl [] rfl rfl rfl (Nat.le_of_ble_eq_true rfl) ⟨Nat.zero_le _, Nat.zero_le _⟩ dJ0_checkIndex_df160_5 ?_
  refine r_pop C dJ0_checkIndex_df160_8 rfl ?_
  exact r_vret C hr hlk dJ0_checkIndex_df160_9
def chS (b : Nat → Int32) (i : Int32) : Int32 := (((b i.toNatClampNeg) &&& 255).toUInt32 % 65536).toInt32
theorem in_lt {i : Int32} {N : Nat} (h : vp_in i N) (hN : N < 2 ^ 31) : ¬ i < 0 ∧ i < Int32.ofNat N := by
  obtain ⟨j, hj, rfl⟩ := vp_in_of h hN
  exact ⟨nI_pos (Nat.lt_trans hj hN), nI_lt hj hN⟩
set_option maxHeartbeats 4000000 in
set_option maxRecDepth 100000 in
theorem c_J1_charAt_3b067 (l : Launch) (D : va_G) (cyI cyZ cyW : ClassId) (N : Nat) (b : Nat → Int32) (v : Nat) (i : Int32) (hN : N < 2 ^ 31) (hi : vp_in i N) : ∀ sz, Met l yJ1_charAt_3b067 wsJ1_charAt_3b067 { frames := 2, cells := 0, slots := 0, locals := 43 } (PCe D (tyG cyI cyZ cyW) (STV N b v) [.ref v, .int i] [] sz) (QI D (tyG cyI cyZ cyW) [] sz (chS b i) []) 0 0 (va_A [] sz) := by
  intro sz
  refine met_ofE (cc := cJ1_charAt_3b067) (maxL := 2) (ret := (some .char)) (lv0 := [(0, .ref v), (1, .int i)]) (by decide) rfl ⟨(Nat.le_of_ble_eq_true rfl), rfl⟩ ?_
  intro p e s m below meth c C hE hr hlk hnm hsz
  subst hsz
  have C : CX p s m _ c 2 cJ1_charAt_3b067 RJ1 wsJ1_charAt_3b067 D (tyG cyI cyZ cyW) _ := C
  obtain ⟨h4, h5, h6⟩ := id hE
  refine r_iload_n C dJ1_charAt_3b067_0 rfl 1 rfl ?_
  refine r_aload_n C dJ1_charAt_3b067_1 rfl 0 rfl ?_
  refine r_tlen C h4 dJ1_charAt_3b067_2 ?_
  refine r_roSE_v (As := [.int i, .int (Int32.ofNat N)]) (rest := []) C (OP_STV N b v) hE (c_J0_checkIndex_df160 l D cyI cyZ cyW N b v i (Int32.ofNat N) (in_lt hi hN).1 (in_lt hi hN).2) gJ1_charAt_3b067_J0_checkIndex_df160 rfl hyS_J0_checkIndex_df160 ⟨rfl, rfl, (Nat.le_of_ble_eq_true rfl), (Nat.le_of_ble_eq_true rfl)⟩ rfl [] rfl rfl rfl (Nat.le_of_ble_eq_true rfl) ⟨Nat.zero_le _, Nat.zero_le _⟩ dJ1_charAt_3b067_3 ?_
  refine r_aload_n C dJ1_charAt_3b067_6 rfl 0 rfl ?_
  refine r_iload_n C dJ1_charAt_3b067_7 rfl 1 rfl ?_
  refine r_tb C h4 hi dJ1_charAt_3b067_8 ?_
  refine r_sipush C 255 dJ1_charAt_3b067_9 (by decide) ?_
  refine r_iand C dJ1_charAt_3b067_12 ?_
  refine r_i2c C dJ1_charAt_3b067_13 ?_
  exact r_zret (r := chS b i) C hr hlk (pk_nc _) dJ1_charAt_3b067_14
set_option maxHeartbeats 4000000 in
set_option maxRecDepth 100000 in
theorem c_J0_charAt_5068e (l : Launch) (D : va_G) (cyI cyZ cyW : ClassId) (N : Nat) (b : Nat → Int32) (a : Nat) (i : Int32) (hN : N < 2 ^ 31) (hi : vp_in i N) : ∀ sz, Met l yJ0_charAt_5068e wsJ0_charAt_5068e { frames := 3, cells := 0, slots := 0, locals := 64 } (PCe D (tyG cyI cyZ cyW) (STR N b a) [.ref a, .int i] [] sz) (QI D (tyG cyI cyZ cyW) [] sz (chS b i) []) 0 0 (va_A [] sz) := by
  intro sz
  refine met_ofE (cc := cJ0_charAt_5068e) (maxL := 2) (ret := (some .char)) (lv0 := [(0, .ref a), (1, .int i)]) (by decide) rfl ⟨(Nat.le_of_ble_eq_true rfl), rfl⟩ ?_
  intro p e s m below meth c C hE hr hlk hnm hsz
  subst hsz
  have C : CX p s m _ c 2 cJ0_charAt_5068e RJ0 wsJ0_charAt_5068e D (tyG cyI cyZ cyW) _ := C
  obtain ⟨v, h1, h2, h3, h4, h5, h6⟩ := id hE
  refine r_aload_n C dJ0_charAt_5068e_0 rfl 0 rfl ?_
  refine r_roVO_i (As := []) (rest := []) C (OP_STR N b a) hE (c_J0_isLatin1_aae02 l D cyI cyZ cyW N b a) gJ0_charAt_5068e_J0_isLatin1_aae02 rfl hyV_J0_isLatin1_aae02 ⟨rfl, rfl, (Nat.le_of_ble_eq_true rfl), (Nat.le_of_ble_eq_true rfl)⟩ rfl h1 [] rfl rfl rfl (Nat.le_of_ble_eq_true rfl) ⟨Nat.zero_le _, Nat.zero_le _⟩ dJ0_charAt_5068e_1 ?_
  refine r_if_eq_f C 16 dJ0_charAt_5068e_4 (by decide) (by decide) ?_
  refine r_aload_n C dJ0_charAt_5068e_7 rfl 0 rfl ?_
  refine r_getO C h3 (List.mem_of_getElem? (i := 1) rfl) rfl dJ0_charAt_5068e_8 ?_
  refine r_iload_n C dJ0_charAt_5068e_11 rfl 1 rfl ?_
  refine r_roSE_i (As := [.ref v, .int i]) (rest := []) C (OP_STV N b v) ⟨h4, h5, h6⟩ (c_J1_charAt_3b067 l D cyI cyZ cyW N b v i hN hi) gJ0_charAt_5068e_J1_charAt_3b067 rfl hyS_J1_charAt_3b067 ⟨rfl, rfl, (Nat.le_of_ble_eq_true rfl), (Nat.le_of_ble_eq_true rfl)⟩ rfl [] rfl rfl rfl (Nat.le_of_ble_eq_true rfl) ⟨Nat.zero_le _, Nat.zero_le _⟩ dJ0_charAt_5068e_12 ?_
  exact r_zret (r := chS b i) C hr hlk (pk_nc _) dJ0_charAt_5068e_15
def bS (l : List Int32) : Nat → Int32 := fun j => l.getD j 0
def facL : Nat → Int32 := fun j => ([1, 1, 2, 6, 24, 120, 720, 5040] : List Int32).getD j 0
/-- the String constants of the reader -/
def OU : EP := fun A U H => ∃ adK : Nat → Nat, (STR 4 (bS [98, 111, 110, 101]) (adK 0) A U H ∧ vk_R RX2 86 "bone" (adK 0) U) ∧ (STR 5 (bS [98, 114, 97, 115, 115]) (adK 1) A U H ∧ vk_R RX2 92 "brass" (adK 1) U) ∧ (STR 5 (bS [112, 101, 97, 114, 108]) (adK 2) A U H ∧ vk_R RX2 94 "pearl" (adK 2) U) ∧ (STR 5 (bS [108, 111, 111, 115, 101]) (adK 3) A U H ∧ vk_R RX2 96 "loose" (adK 3) U) ∧ (STR 6 (bS [102, 97, 118, 111, 117, 114]) (adK 4) A U H ∧ vk_R RX2 98 "favour" (adK 4) U) ∧ (STR 4 (bS [102, 101, 117, 100]) (adK 5) A U H ∧ vk_R RX2 100 "feud" (adK 5) U) ∧ (STR 5 (bS [113, 117, 111, 116, 97]) (adK 6) A U H ∧ vk_R RX2 102 "quota" (adK 6) U) ∧ (STR 4 (bS [99, 111, 108, 100]) (adK 7) A U H ∧ vk_R RX2 104 "cold" (adK 7) U) ∧ (STR 4 (bS [109, 105, 108, 100]) (adK 8) A U H ∧ vk_R RX2 106 "mild" (adK 8) U) ∧ (STR 4 (bS [99, 111, 97, 116]) (adK 9) A U H ∧ vk_R RX2 108 "coat" (adK 9) U)
theorem OP_OU : OP OU := by
  refine ⟨?_, ?_, ?_, ?_⟩
  · rintro A B U H h ⟨adK, ⟨q0s, q0r⟩, ⟨q1s, q1r⟩, ⟨q2s, q2r⟩, ⟨q3s, q3r⟩, ⟨q4s, q4r⟩, ⟨q5s, q5r⟩, ⟨q6s, q6r⟩, ⟨q7s, q7r⟩, ⟨q8s, q8r⟩, ⟨q9s, q9r⟩⟩
    exact ⟨adK, ⟨(OP_STR _ _ _).1 _ _ _ _ h q0s, q0r⟩, ⟨(OP_STR _ _ _).1 _ _ _ _ h q1s, q1r⟩, ⟨(OP_STR _ _ _).1 _ _ _ _ h q2s, q2r⟩, ⟨(OP_STR _ _ _).1 _ _ _ _ h q3s, q3r⟩, ⟨(OP_STR _ _ _).1 _ _ _ _ h q4s, q4r⟩, ⟨(OP_STR _ _ _).1 _ _ _ _ h q5s, q5r⟩, ⟨(OP_STR _ _ _).1 _ _ _ _ h q6s, q6r⟩, ⟨(OP_STR _ _ _).1 _ _ _ _ h q7s, q7r⟩, ⟨(OP_STR _ _ _).1 _ _ _ _ h q8s, q8r⟩, ⟨(OP_STR _ _ _).1 _ _ _ _ h q9s, q9r⟩⟩
  · rintro A U H H1 h ⟨adK, ⟨q0s, q0r⟩, ⟨q1s, q1r⟩, ⟨q2s, q2r⟩, ⟨q3s, q3r⟩, ⟨q4s, q4r⟩, ⟨q5s, q5r⟩, ⟨q6s, q6r⟩, ⟨q7s, q7r⟩, ⟨q8s, q8r⟩, ⟨q9s, q9r⟩⟩
    exact ⟨adK, ⟨(OP_STR _ _ _).2.1 _ _ _ _ h q0s, q0r⟩, ⟨(OP_STR _ _ _).2.1 _ _ _ _ h q1s, q1r⟩, ⟨(OP_STR _ _ _).2.1 _ _ _ _ h q2s, q2r⟩, ⟨(OP_STR _ _ _).2.1 _ _ _ _ h q3s, q3r⟩, ⟨(OP_STR _ _ _).2.1 _ _ _ _ h q4s, q4r⟩, ⟨(OP_STR _ _ _).2.1 _ _ _ _ h q5s, q5r⟩, ⟨(OP_STR _ _ _).2.1 _ _ _ _ h q6s, q6r⟩, ⟨(OP_STR _ _ _).2.1 _ _ _ _ h q7s, q7r⟩, ⟨(OP_STR _ _ _).2.1 _ _ _ _ h q8s, q8r⟩, ⟨(OP_STR _ _ _).2.1 _ _ _ _ h q9s, q9r⟩⟩
  · rintro A s U H h ⟨adK, ⟨q0s, q0r⟩, ⟨q1s, q1r⟩, ⟨q2s, q2r⟩, ⟨q3s, q3r⟩, ⟨q4s, q4r⟩, ⟨q5s, q5r⟩, ⟨q6s, q6r⟩, ⟨q7s, q7r⟩, ⟨q8s, q8r⟩, ⟨q9s, q9r⟩⟩
    exact ⟨adK, ⟨(OP_STR _ _ _).2.2.1 _ _ _ _ h q0s, vk_R.warm h q0r⟩, ⟨(OP_STR _ _ _).2.2.1 _ _ _ _ h q1s, vk_R.warm h q1r⟩, ⟨(OP_STR _ _ _).2.2.1 _ _ _ _ h q2s, vk_R.warm h q2r⟩, ⟨(OP_STR _ _ _).2.2.1 _ _ _ _ h q3s, vk_R.warm h q3r⟩, ⟨(OP_STR _ _ _).2.2.1 _ _ _ _ h q4s, vk_R.warm h q4r⟩, ⟨(OP_STR _ _ _).2.2.1 _ _ _ _ h q5s, vk_R.warm h q5r⟩, ⟨(OP_STR _ _ _).2.2.1 _ _ _ _ h q6s, vk_R.warm h q6r⟩, ⟨(OP_STR _ _ _).2.2.1 _ _ _ _ h q7s, vk_R.warm h q7r⟩, ⟨(OP_STR _ _ _).2.2.1 _ _ _ _ h q8s, vk_R.warm h q8r⟩, ⟨(OP_STR _ _ _).2.2.1 _ _ _ _ h q9s, vk_R.warm h q9r⟩⟩
  · rintro A u U H h ⟨adK, ⟨q0s, q0r⟩, ⟨q1s, q1r⟩, ⟨q2s, q2r⟩, ⟨q3s, q3r⟩, ⟨q4s, q4r⟩, ⟨q5s, q5r⟩, ⟨q6s, q6r⟩, ⟨q7s, q7r⟩, ⟨q8s, q8r⟩, ⟨q9s, q9r⟩⟩
    exact ⟨adK, ⟨(OP_STR _ _ _).2.2.2 _ _ _ _ h q0s, vk_R.same h.symm q0r⟩, ⟨(OP_STR _ _ _).2.2.2 _ _ _ _ h q1s, vk_R.same h.symm q1r⟩, ⟨(OP_STR _ _ _).2.2.2 _ _ _ _ h q2s, vk_R.same h.symm q2r⟩, ⟨(OP_STR _ _ _).2.2.2 _ _ _ _ h q3s, vk_R.same h.symm q3r⟩, ⟨(OP_STR _ _ _).2.2.2 _ _ _ _ h q4s, vk_R.same h.symm q4r⟩, ⟨(OP_STR _ _ _).2.2.2 _ _ _ _ h q5s, vk_R.same h.symm q5r⟩, ⟨(OP_STR _ _ _).2.2.2 _ _ _ _ h q6s, vk_R.same h.symm q6r⟩, ⟨(OP_STR _ _ _).2.2.2 _ _ _ _ h q7s, vk_R.same h.symm q7r⟩, ⟨(OP_STR _ _ _).2.2.2 _ _ _ _ h q8s, vk_R.same h.symm q8r⟩, ⟨(OP_STR _ _ _).2.2.2 _ _ _ _ h q9s, vk_R.same h.symm q9r⟩⟩
/-- the table of factorials -/
def OF : EP := fun A U H => ∃ t : Nat, va_Z RX8 "FACTORIALS" "[I" (.ref t) A U H ∧ va_T .int t 8 (fun j => .int (facL j)) A U H
theorem OP_OF : OP OF := by
  refine ⟨?_, ?_, ?_, ?_⟩
  · rintro A B U H h ⟨t, h1, h2⟩
    exact ⟨t, h1.narrow h, h2.narrow h⟩
  · rintro A U H H1 h ⟨t, h1, h2⟩
    exact ⟨t, h1.kept h, h2.kept h⟩
  · rintro A s U H h ⟨t, h1, h2⟩
    exact ⟨t, h1.moved h.alike, h2.moved h.alike⟩
  · rintro A u U H h ⟨t, h1, h2⟩
    have ha : u.vm.Alike U.vm := h ▸ Vm.Alike.refl u.vm
    exact ⟨t, h1.moved ha, h2.moved ha⟩
