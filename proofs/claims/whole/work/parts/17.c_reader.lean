theorem lk_X2_isSmall_1 : Cond.fieldLink RX2 12 "ParishCoat$Reader" "text" "LParishCoat$Letters;" ∈ wsX2_isSmall := List.mem_of_getElem? (i := 1) rfl
theorem in_X2_isSmall_X2 : ∀ w ∈ u_ws RX2 TX2 5, w ∈ wsX2_isSmall := fun _ h => List.mem_cons_of_mem _ (List.mem_append_left _ (List.mem_append_right _ h))
theorem hyV_X0_at : yX0_at.cls = RX0 ∧ yX0_at.cls ≠ "java/lang/invoke/MethodHandle" ∧ yX0_at.cls ≠ "java/lang/invoke/VarHandle" ∧ (parseMethodDescriptor yX0_at.desc).map (fun d => d.parameters.length) = some 1 := by decide +kernel
theorem hyS_X0_at : yX0_at.cls ≠ "java/lang/invoke/MethodHandle" ∧ yX0_at.cls ≠ "java/lang/invoke/VarHandle" ∧ (parseMethodDescriptor yX0_at.desc).map (fun d => d.parameters.length) = some 1 := by decide +kernel
def f_X2_isSmall (v_this_text_length : Int32) (v_this_text_letters : Nat → Int32) (x1 : Int32) : Option (Int32) := (f_X0_at v_this_text_length v_this_text_letters x1).bind fun y1 => if y1 < 97 then (some (0)) else ((f_X0_at v_this_text_length v_this_text_letters x1).bind fun y3 => if 122 < y3 then (some (0)) else (some (1)))
def w_X2_isSmall (cyI cyZ cyW : ClassId) (a_this : Nat) (a_this_text : Nat) (a_this_draft : Nat) (v_this_clauses : Int32) (v_this_start : Int32) (v_this_end : Int32) (a_this_text_letters : Nat) (v_this_text_length : Int32) (v_this_text_letters : Nat → Int32) : va_W := [(a_this, .inr (2, [.ref a_this_text, .ref a_this_draft, .int v_this_clauses, .int v_this_start, .int v_this_end])), (a_this_text, .inr (0, [.ref a_this_text_letters, .int v_this_text_length])), (a_this_text_letters, .inl (cyI, 160, .inl v_this_text_letters))]
set_option maxHeartbeats 4000000 in
set_option maxRecDepth 100000 in
theorem c_X2_isSmall (l : Launch) (D : va_G) (cyI cyZ cyW : ClassId) (a_this : Nat) (a_this_text : Nat) (a_this_draft : Nat) (v_this_clauses : Int32) (v_this_start : Int32) (v_this_end : Int32) (a_this_text_letters : Nat) (v_this_text_length : Int32) (v_this_text_letters : Nat → Int32) (x1 : Int32) (res : Int32) (hf : f_X2_isSmall v_this_text_length v_this_text_letters x1 = some res) : ∀ sz, Met l yX2_isSmall wsX2_isSmall { frames := 1, cells := 0, slots := 0, locals := 21 } (PCx D (tyG cyI cyZ cyW) [.ref a_this, .int x1] (w_X2_isSmall cyI cyZ cyW a_this a_this_text a_this_draft v_this_clauses v_this_start v_this_end a_this_text_letters v_this_text_length v_this_text_letters) sz) (QI D (tyG cyI cyZ cyW) (w_X2_isSmall cyI cyZ cyW a_this a_this_text a_this_draft v_this_clauses v_this_start v_this_end a_this_text_letters v_this_text_length v_this_text_letters) sz res (w_X2_isSmall cyI cyZ cyW a_this a_this_text a_this_draft v_this_clauses v_this_start v_this_end a_this_text_letters v_this_text_length v_this_text_letters)) 0 0 (va_A (w_X2_isSmall cyI cyZ cyW a_this a_this_text a_this_draft v_this_clauses v_this_start v_this_end a_this_text_letters v_this_text_length v_this_text_letters) sz) := by
  intro sz
  refine met_of (cc := cX2_isSmall) (maxL := 2) (ret := (some .boolean)) (lv0 := [(0, .ref a_this), (1, .int x1)]) (by decide) rfl ⟨(Nat.le_of_ble_eq_true rfl), rfl⟩ ?_
  intro p e s m below meth c C hr hlk hnm hsz
  subst hsz
  have C : CX p s m _ c 2 cX2_isSmall RX2 wsX2_isSmall D (tyG cyI cyZ cyW) _ := C
  refine r_aload_n C dX2_isSmall_0 rfl 0 rfl ?_
  refine r_get C in_X2_isSmall_X2 0 rfl rfl 0 (by decide) lk_X2_isSmall_1 rfl rfl dX2_isSmall_1 ?_
  refine r_iload_n C dX2_isSmall_4 rfl 1 rfl ?_
  obtain ⟨y1, hy2, hf⟩ := bd_some hf
  refine r_roV_i (As := [.int x1]) (rest := []) C (c_X0_at l D cyI cyZ cyW a_this_text a_this_text_letters v_this_text_length v_this_text_letters x1 y1 hy2) gX2_isSmall_X0_at rfl hyV_X0_at ⟨rfl, rfl, (Nat.le_of_ble_eq_true rfl), (Nat.le_of_ble_eq_true rfl)⟩ rfl 1 rfl rfl [1, 2] rfl rfl rfl (Nat.le_of_ble_eq_true rfl) ⟨Nat.zero_le _, Nat.zero_le _⟩ dX2_isSmall_5 ?_
  refine r_bipush C 97 dX2_isSmall_8 (by decide) ?_
  refine r_icmp_lt C 30 dX2_isSmall_10 (by decide) hf (fun hf => ?_) (fun hf => ?_)
  · refine r_iconst C 0 dX2_isSmall_30 (by decide) ?_
    rw [← Option.some.inj hf]
    exact r_zret (r := 0) C hr hlk rfl dX2_isSmall_31
  · refine r_aload_n C dX2_isSmall_13 rfl 0 rfl ?_
    refine r_get C in_X2_isSmall_X2 0 rfl rfl 0 (by decide) lk_X2_isSmall_1 rfl rfl dX2_isSmall_14 ?_
    refine r_iload_n C dX2_isSmall_17 rfl 1 rfl ?_
    obtain ⟨y3, hy4, hf⟩ := bd_some hf
    refine r_roV_i (As := [.int x1]) (rest := []) C (c_X0_at l D cyI cyZ cyW a_this_text a_this_text_letters v_this_text_length v_this_text_letters x1 y3 hy4) gX2_isSmall_X0_at rfl hyV_X0_at ⟨rfl, rfl, (Nat.le_of_ble_eq_true rfl), (Nat.le_of_ble_eq_true rfl)⟩ rfl 1 rfl rfl [1, 2] rfl rfl rfl (Nat.le_of_ble_eq_true rfl) ⟨Nat.zero_le _, Nat.zero_le _⟩ dX2_isSmall_18 ?_
    refine r_bipush C 122 dX2_isSmall_21 (by decide) ?_
    refine r_icmp_gt C 30 dX2_isSmall_23 (by decide) hf (fun hf => ?_) (fun hf => ?_)
    · refine r_iconst C 0 dX2_isSmall_30 (by decide) ?_
      rw [← Option.some.inj hf]
      exact r_zret (r := 0) C hr hlk rfl dX2_isSmall_31
    · refine r_iconst C 1 dX2_isSmall_26 (by decide) ?_
      refine r_goto C 31 dX2_isSmall_27 (by decide) ?_
      rw [← Option.some.inj hf]
      exact r_zret (r := 1) C hr hlk rfl dX2_isSmall_31

theorem lk_X2_isDigit_1 : Cond.fieldLink RX2 12 "ParishCoat$Reader" "text" "LParishCoat$Letters;" ∈ wsX2_isDigit := List.mem_of_getElem? (i := 1) rfl
theorem in_X2_isDigit_X2 : ∀ w ∈ u_ws RX2 TX2 5, w ∈ wsX2_isDigit := fun _ h => List.mem_cons_of_mem _ (List.mem_append_left _ (List.mem_append_right _ h))
def f_X2_isDigit (v_this_text_length : Int32) (v_this_text_letters : Nat → Int32) (x1 : Int32) : Option (Int32) := (f_X0_at v_this_text_length v_this_text_letters x1).bind fun y1 => if y1 < 48 then (some (0)) else ((f_X0_at v_this_text_length v_this_text_letters x1).bind fun y3 => if 57 < y3 then (some (0)) else (some (1)))
def w_X2_isDigit (cyI cyZ cyW : ClassId) (a_this : Nat) (a_this_text : Nat) (a_this_draft : Nat) (v_this_clauses : Int32) (v_this_start : Int32) (v_this_end : Int32) (a_this_text_letters : Nat) (v_this_text_length : Int32) (v_this_text_letters : Nat → Int32) : va_W := [(a_this, .inr (2, [.ref a_this_text, .ref a_this_draft, .int v_this_clauses, .int v_this_start, .int v_this_end])), (a_this_text, .inr (0, [.ref a_this_text_letters, .int v_this_text_length])), (a_this_text_letters, .inl (cyI, 160, .inl v_this_text_letters))]
set_option maxHeartbeats 4000000 in
set_option maxRecDepth 100000 in
theorem c_X2_isDigit (l : Launch) (D : va_G) (cyI cyZ cyW : ClassId) (a_this : Nat) (a_this_text : Nat) (a_this_draft : Nat) (v_this_clauses : Int32) (v_this_start : Int32) (v_this_end : Int32) (a_this_text_letters : Nat) (v_this_text_length : Int32) (v_this_text_letters : Nat → Int32) (x1 : Int32) (res : Int32) (hf : f_X2_isDigit v_this_text_length v_this_text_letters x1 = some res) : ∀ sz, Met l yX2_isDigit wsX2_isDigit { frames := 1, cells := 0, slots := 0, locals := 21 } (PCx D (tyG cyI cyZ cyW) [.ref a_this, .int x1] (w_X2_isDigit cyI cyZ cyW a_this a_this_text a_this_draft v_this_clauses v_this_start v_this_end a_this_text_letters v_this_text_length v_this_text_letters) sz) (QI D (tyG cyI cyZ cyW) (w_X2_isDigit cyI cyZ cyW a_this a_this_text a_this_draft v_this_clauses v_this_start v_this_end a_this_text_letters v_this_text_length v_this_text_letters) sz res (w_X2_isDigit cyI cyZ cyW a_this a_this_text a_this_draft v_this_clauses v_this_start v_this_end a_this_text_letters v_this_text_length v_this_text_letters)) 0 0 (va_A (w_X2_isDigit cyI cyZ cyW a_this a_this_text a_this_draft v_this_clauses v_this_start v_this_end a_this_text_letters v_this_text_length v_this_text_letters) sz) := by
  intro sz
  refine met_of (cc := cX2_isDigit) (maxL := 2) (ret := (some .boolean)) (lv0 := [(0, .ref a_this), (1, .int x1)]) (by decide) rfl ⟨(Nat.le_of_ble_eq_true rfl), rfl⟩ ?_
  intro p e s m below meth c C hr hlk hnm hsz
  subst hsz
  have C : CX p s m _ c 2 cX2_isDigit RX2 wsX2_isDigit D (tyG cyI cyZ cyW) _ := C
  refine r_aload_n C dX2_isDigit_0 rfl 0 rfl ?_
  refine r_get C in_X2_isDigit_X2 0 rfl rfl 0 (by decide) lk_X2_isDigit_1 rfl rfl dX2_isDigit_1 ?_
  refine r_iload_n C dX2_isDigit_4 rfl 1 rfl ?_
  obtain ⟨y1, hy2, hf⟩ := bd_some hf
  refine r_roV_i (As := [.int x1]) (rest := []) C (c_X0_at l D cyI cyZ cyW a_this_text a_this_text_letters v_this_text_length v_this_text_letters x1 y1 hy2) gX2_isDigit_X0_at rfl hyV_X0_at ⟨rfl, rfl, (Nat.le_of_ble_eq_true rfl), (Nat.le_of_ble_eq_true rfl)⟩ rfl 1 rfl rfl [1, 2] rfl rfl rfl (Nat.le_of_ble_eq_true rfl) ⟨Nat.zero_le _, Nat.zero_le _⟩ dX2_isDigit_5 ?_
  refine r_bipush C 48 dX2_isDigit_8 (by decide) ?_
  refine r_icmp_lt C 30 dX2_isDigit_10 (by decide) hf (fun hf => ?_) (fun hf => ?_)
  · refine r_iconst C 0 dX2_isDigit_30 (by decide) ?_
    rw [← Option.some.inj hf]
    exact r_zret (r := 0) C hr hlk rfl dX2_isDigit_31
  · refine r_aload_n C dX2_isDigit_13 rfl 0 rfl ?_
    refine r_get C in_X2_isDigit_X2 0 rfl rfl 0 (by decide) lk_X2_isDigit_1 rfl rfl dX2_isDigit_14 ?_
    refine r_iload_n C dX2_isDigit_17 rfl 1 rfl ?_
    obtain ⟨y3, hy4, hf⟩ := bd_some hf
    refine r_roV_i (As := [.int x1]) (rest := []) C (c_X0_at l D cyI cyZ cyW a_this_text a_this_text_letters v_this_text_length v_this_text_letters x1 y3 hy4) gX2_isDigit_X0_at rfl hyV_X0_at ⟨rfl, rfl, (Nat.le_of_ble_eq_true rfl), (Nat.le_of_ble_eq_true rfl)⟩ rfl 1 rfl rfl [1, 2] rfl rfl rfl (Nat.le_of_ble_eq_true rfl) ⟨Nat.zero_le _, Nat.zero_le _⟩ dX2_isDigit_18 ?_
    refine r_bipush C 57 dX2_isDigit_21 (by decide) ?_
    refine r_icmp_gt C 30 dX2_isDigit_23 (by decide) hf (fun hf => ?_) (fun hf => ?_)
    · refine r_iconst C 0 dX2_isDigit_30 (by decide) ?_
      rw [← Option.some.inj hf]
      exact r_zret (r := 0) C hr hlk rfl dX2_isDigit_31
    · refine r_iconst C 1 dX2_isDigit_26 (by decide) ?_
      refine r_goto C 31 dX2_isDigit_27 (by decide) ?_
      rw [← Option.some.inj hf]
      exact r_zret (r := 1) C hr hlk rfl dX2_isDigit_31

theorem lk_X2_next_1 : Cond.fieldLink RX2 29 "ParishCoat$Reader" "end" "I" ∈ wsX2_next := List.mem_of_getElem? (i := 1) rfl
theorem lk_X2_next_2 : Cond.fieldLink RX2 43 "ParishCoat$Reader" "start" "I" ∈ wsX2_next := List.mem_of_getElem? (i := 2) rfl
theorem lk_X2_next_3 : Cond.fieldLink RX2 12 "ParishCoat$Reader" "text" "LParishCoat$Letters;" ∈ wsX2_next := List.mem_of_getElem? (i := 3) rfl
theorem lk_X2_next_4 : Cond.fieldLink RX2 46 "ParishCoat$Letters" "length" "I" ∈ wsX2_next := List.mem_of_getElem? (i := 4) rfl
theorem in_X2_next_X0 : ∀ w ∈ u_ws RX0 TX0 2, w ∈ wsX2_next := fun _ h => List.mem_cons_of_mem _ (List.mem_append_right _ h)
theorem in_X2_next_X2 : ∀ w ∈ u_ws RX2 TX2 5, w ∈ wsX2_next := fun _ h => List.mem_cons_of_mem _ (List.mem_append_left _ (List.mem_append_right _ h))
theorem hyV_X2_isSmall : yX2_isSmall.cls = RX2 ∧ yX2_isSmall.cls ≠ "java/lang/invoke/MethodHandle" ∧ yX2_isSmall.cls ≠ "java/lang/invoke/VarHandle" ∧ (parseMethodDescriptor yX2_isSmall.desc).map (fun d => d.parameters.length) = some 1 := by decide +kernel
theorem hyS_X2_isSmall : yX2_isSmall.cls ≠ "java/lang/invoke/MethodHandle" ∧ yX2_isSmall.cls ≠ "java/lang/invoke/VarHandle" ∧ (parseMethodDescriptor yX2_isSmall.desc).map (fun d => d.parameters.length) = some 1 := by decide +kernel
theorem hyV_X2_isDigit : yX2_isDigit.cls = RX2 ∧ yX2_isDigit.cls ≠ "java/lang/invoke/MethodHandle" ∧ yX2_isDigit.cls ≠ "java/lang/invoke/VarHandle" ∧ (parseMethodDescriptor yX2_isDigit.desc).map (fun d => d.parameters.length) = some 1 := by decide +kernel
theorem hyS_X2_isDigit : yX2_isDigit.cls ≠ "java/lang/invoke/MethodHandle" ∧ yX2_isDigit.cls ≠ "java/lang/invoke/VarHandle" ∧ (parseMethodDescriptor yX2_isDigit.desc).map (fun d => d.parameters.length) = some 1 := by decide +kernel
def f_X2_next_s119 (v_this_text_length : Int32) (v_this_text_letters : Nat → Int32) (k_119 : Int32 → Int32 → Option (Int32 × Int32)) (v_this_start : Int32) (v_this_end : Int32) : Option (Int32 × Int32) := if v_this_text_length ≤ v_this_end then (some (v_this_start, v_this_end)) else ((f_X2_isDigit v_this_text_length v_this_text_letters v_this_end).bind fun y9 => if y9 = 0 then (some (v_this_start, v_this_end)) else (k_119 v_this_start (v_this_end + 1)))
def f_X2_next_b119 (v_this_text_length : Int32) (v_this_text_letters : Nat → Int32) (n : Nat) : Int32 → Int32 → Option (Int32 × Int32) := it_ (f_X2_next_s119 v_this_text_length v_this_text_letters ) (fun _ _ => none) n
def f_X2_next_s70 (v_this_text_length : Int32) (v_this_text_letters : Nat → Int32) (k_70 : Int32 → Int32 → Option (Int32 × Int32)) (v_this_start : Int32) (v_this_end : Int32) : Option (Int32 × Int32) := if v_this_text_length ≤ v_this_end then (some (v_this_start, v_this_end)) else ((f_X2_isSmall v_this_text_length v_this_text_letters v_this_end).bind fun y7 => if y7 = 0 then (some (v_this_start, v_this_end)) else (k_70 v_this_start (v_this_end + 1)))
def f_X2_next_b70 (v_this_text_length : Int32) (v_this_text_letters : Nat → Int32) (n : Nat) : Int32 → Int32 → Option (Int32 × Int32) := it_ (f_X2_next_s70 v_this_text_length v_this_text_letters ) (fun _ _ => none) n
def f_X2_next_b51 (v_this_text_length : Int32) (v_this_text_letters : Nat → Int32) (v_this_start : Int32) (v_this_end : Int32) : Option (Int32 × Int32) := (f_X2_isSmall v_this_text_length v_this_text_letters v_this_start).bind fun y3 => if y3 = 0 then ((f_X2_isDigit v_this_text_length v_this_text_letters v_this_start).bind fun y5 => if y5 = 0 then (if v_this_text_length ≤ v_this_start then (some (v_this_start, v_this_start)) else (some (v_this_start, (v_this_start + 1)))) else (f_X2_next_b119 v_this_text_length v_this_text_letters 5000 v_this_start v_this_start)) else (f_X2_next_b70 v_this_text_length v_this_text_letters 5000 v_this_start v_this_start)
def f_X2_next_s8 (v_this_text_length : Int32) (v_this_text_letters : Nat → Int32) (k_8 : Int32 → Int32 → Option (Int32 × Int32)) (v_this_start : Int32) (v_this_end : Int32) : Option (Int32 × Int32) := if v_this_text_length ≤ v_this_start then (f_X2_next_b51 v_this_text_length v_this_text_letters v_this_start v_this_end) else ((f_X0_at v_this_text_length v_this_text_letters v_this_start).bind fun y1 => if y1 = 32 then (k_8 (v_this_start + 1) v_this_end) else (f_X2_next_b51 v_this_text_length v_this_text_letters v_this_start v_this_end))
def f_X2_next_b8 (v_this_text_length : Int32) (v_this_text_letters : Nat → Int32) (n : Nat) : Int32 → Int32 → Option (Int32 × Int32) := it_ (f_X2_next_s8 v_this_text_length v_this_text_letters ) (fun _ _ => none) n
def f_X2_next (v_this_start : Int32) (v_this_end : Int32) (v_this_text_length : Int32) (v_this_text_letters : Nat → Int32) : Option (Int32 × Int32) := f_X2_next_b8 v_this_text_length v_this_text_letters 5000 v_this_end v_this_end
def w_X2_next (cyI cyZ cyW : ClassId) (a_this : Nat) (a_this_text : Nat) (a_this_draft : Nat) (v_this_clauses : Int32) (v_this_start : Int32) (v_this_end : Int32) (a_this_text_letters : Nat) (v_this_text_length : Int32) (v_this_text_letters : Nat → Int32) : va_W := [(a_this, .inr (2, [.ref a_this_text, .ref a_this_draft, .int v_this_clauses, .int v_this_start, .int v_this_end])), (a_this_text, .inr (0, [.ref a_this_text_letters, .int v_this_text_length])), (a_this_text_letters, .inl (cyI, 160, .inl v_this_text_letters))]
set_option maxHeartbeats 4000000 in
set_option maxRecDepth 100000 in
theorem c_X2_next (l : Launch) (D : va_G) (cyI cyZ cyW : ClassId) (a_this : Nat) (a_this_text : Nat) (a_this_draft : Nat) (v_this_clauses : Int32) (v_this_start : Int32) (v_this_end : Int32) (a_this_text_letters : Nat) (v_this_text_length : Int32) (v_this_text_letters : Nat → Int32) (res : Int32 × Int32) (hf : f_X2_next v_this_start v_this_end v_this_text_length v_this_text_letters = some res) : ∀ sz, Met l yX2_next wsX2_next { frames := 2, cells := 0, slots := 0, locals := 42 } (PCx D (tyG cyI cyZ cyW) [.ref a_this] (w_X2_next cyI cyZ cyW a_this a_this_text a_this_draft v_this_clauses v_this_start v_this_end a_this_text_letters v_this_text_length v_this_text_letters) sz) (QV D (tyG cyI cyZ cyW) (w_X2_next cyI cyZ cyW a_this a_this_text a_this_draft v_this_clauses v_this_start v_this_end a_this_text_letters v_this_text_length v_this_text_letters) sz (w_X2_next cyI cyZ cyW a_this a_this_text a_this_draft v_this_clauses res.1 res.2 a_this_text_letters v_this_text_length v_this_text_letters)) 0 0 (va_A (w_X2_next cyI cyZ cyW a_this a_this_text a_this_draft v_this_clauses v_this_start v_this_end a_this_text_letters v_this_text_length v_this_text_letters) sz) := by
  intro sz
  refine met_of (cc := cX2_next) (maxL := 1) (ret := none) (lv0 := [(0, .ref a_this)]) (by decide) rfl ⟨(Nat.le_of_ble_eq_true rfl), rfl⟩ ?_
  intro p e s m below meth c C hr hlk hnm hsz
  subst hsz
  have C : CX p s m _ c 1 cX2_next RX2 wsX2_next D (tyG cyI cyZ cyW) _ := C
  obtain ⟨Z, hZ⟩ : ∃ Z : va_W → Nat → LV → List Value → Prop, Z = ST p l e { frames := 2, cells := 0, slots := 0, locals := 42 } s m [.ref a_this].toArray below meth c 1 D (va_A (w_X2_next cyI cyZ cyW a_this a_this_text a_this_draft v_this_clauses v_this_start v_this_end a_this_text_letters v_this_text_length v_this_text_letters) s.heap.size) (MQ below (QV D (tyG cyI cyZ cyW) (w_X2_next cyI cyZ cyW a_this a_this_text a_this_draft v_this_clauses v_this_start v_this_end a_this_text_letters v_this_text_length v_this_text_letters) s.heap.size (w_X2_next cyI cyZ cyW a_this a_this_text a_this_draft v_this_clauses res.1 res.2 a_this_text_letters v_this_text_length v_this_text_letters)) [.ref a_this].toArray s 0 0 (va_A (w_X2_next cyI cyZ cyW a_this a_this_text a_this_draft v_this_clauses v_this_start v_this_end a_this_text_letters v_this_text_length v_this_text_letters) s.heap.size)) 0 0 := ⟨_, rfl⟩
  have hs_119 : ∀ (k_119 : Int32 → Int32 → Option (Int32 × Int32)), (∀ (v_this_start : Int32) (v_this_end : Int32), k_119 v_this_start v_this_end = some res → Z (w_X2_next cyI cyZ cyW a_this a_this_text a_this_draft v_this_clauses v_this_start v_this_end a_this_text_letters v_this_text_length v_this_text_letters) 119 [(0, .ref a_this)] []) → ∀ (v_this_start : Int32) (v_this_end : Int32), f_X2_next_s119 v_this_text_length v_this_text_letters k_119 v_this_start v_this_end = some res → Z (w_X2_next cyI cyZ cyW a_this a_this_text a_this_draft v_this_clauses v_this_start v_this_end a_this_text_letters v_this_text_length v_this_text_letters) 119 [(0, .ref a_this)] [] := by
    subst hZ
    intro k_119 hk_119 v_this_start v_this_end hf
    refine r_aload_n C dX2_next_119 rfl 0 rfl ?_
    refine r_get C in_X2_next_X2 0 rfl rfl 4 (by decide) lk_X2_next_1 rfl rfl dX2_next_120 ?_
    refine r_aload_n C dX2_next_123 rfl 0 rfl ?_
    refine r_get C in_X2_next_X2 0 rfl rfl 0 (by decide) lk_X2_next_3 rfl rfl dX2_next_124 ?_
    refine r_get C in_X2_next_X0 1 rfl rfl 1 (by decide) lk_X2_next_4 rfl rfl dX2_next_127 ?_
    refine r_icmp_ge C 181 dX2_next_130 (by decide) hf (fun hf => ?_) (fun hf => ?_)
    · rw [← Option.some.inj hf]
      exact r_vret C hr hlk dX2_next_181
    · refine r_aload_n C dX2_next_133 rfl 0 rfl ?_
      refine r_aload_n C dX2_next_134 rfl 0 rfl ?_
      refine r_get C in_X2_next_X2 0 rfl rfl 4 (by decide) lk_X2_next_1 rfl rfl dX2_next_135 ?_
      obtain ⟨y9, hy10, hf⟩ := bd_some hf
      refine r_roV_i (As := [.int v_this_end]) (rest := []) C (c_X2_isDigit l D cyI cyZ cyW a_this a_this_text a_this_draft v_this_clauses v_this_start v_this_end a_this_text_letters v_this_text_length v_this_text_letters v_this_end y9 hy10) gX2_next_X2_isDigit rfl hyV_X2_isDigit ⟨rfl, rfl, (Nat.le_of_ble_eq_true rfl), (Nat.le_of_ble_eq_true rfl)⟩ rfl 0 rfl rfl [0, 1, 2] rfl rfl rfl (Nat.le_of_ble_eq_true rfl) ⟨Nat.zero_le _, Nat.zero_le _⟩ dX2_next_138 ?_
      refine r_if_eq C 181 dX2_next_141 (by decide) hf (fun hf => ?_) (fun hf => ?_)
      · rw [← Option.some.inj hf]
        exact r_vret C hr hlk dX2_next_181
      · refine r_aload_n C dX2_next_144 rfl 0 rfl ?_
        refine r_dup C dX2_next_145 rfl ?_
        refine r_get C in_X2_next_X2 0 rfl rfl 4 (by decide) lk_X2_next_1 rfl rfl dX2_next_146 ?_
        refine r_iconst C 1 dX2_next_149 (by decide) ?_
        refine r_iadd C dX2_next_150 ?_
        refine r_put (ws' := (w_X2_next cyI cyZ cyW a_this a_this_text a_this_draft v_this_clauses v_this_start (v_this_end + 1) a_this_text_letters v_this_text_length v_this_text_letters)) C in_X2_next_X2 tyX2 tyX2_ok nmX2 0 rfl rfl 4 (by decide) lk_X2_next_1 rfl rfl rfl rfl (Nat.le_of_ble_eq_true rfl) rfl dX2_next_151 ?_
        refine r_goto C 119 dX2_next_154 (by decide) ?_
        exact ST_lv [0] rfl (hk_119 v_this_start (v_this_end + 1) hf)
  have hb_119 : ∀ (n : Nat) (v_this_start : Int32) (v_this_end : Int32), f_X2_next_b119 v_this_text_length v_this_text_letters n v_this_start v_this_end = some res → Z (w_X2_next cyI cyZ cyW a_this a_this_text a_this_draft v_this_clauses v_this_start v_this_end a_this_text_letters v_this_text_length v_this_text_letters) 119 [(0, .ref a_this)] [] := by
    intro  n
    induction n with
    | zero => intro v_this_start v_this_end hf; exact nn_ hf
    | succ n ih => exact fun v_this_start v_this_end hf => hs_119 _ ih v_this_start v_this_end hf
  have hs_70 : ∀ (k_70 : Int32 → Int32 → Option (Int32 × Int32)), (∀ (v_this_start : Int32) (v_this_end : Int32), k_70 v_this_start v_this_end = some res → Z (w_X2_next cyI cyZ cyW a_this a_this_text a_this_draft v_this_clauses v_this_start v_this_end a_this_text_letters v_this_text_length v_this_text_letters) 70 [(0, .ref a_this)] []) → ∀ (v_this_start : Int32) (v_this_end : Int32), f_X2_next_s70 v_this_text_length v_this_text_letters k_70 v_this_start v_this_end = some res → Z (w_X2_next cyI cyZ cyW a_this a_this_text a_this_draft v_this_clauses v_this_start v_this_end a_this_text_letters v_this_text_length v_this_text_letters) 70 [(0, .ref a_this)] [] := by
    subst hZ
    intro k_70 hk_70 v_this_start v_this_end hf
    refine r_aload_n C dX2_next_70 rfl 0 rfl ?_
    refine r_get C in_X2_next_X2 0 rfl rfl 4 (by decide) lk_X2_next_1 rfl rfl dX2_next_71 ?_
    refine r_aload_n C dX2_next_74 rfl 0 rfl ?_
    refine r_get C in_X2_next_X2 0 rfl rfl 0 (by decide) lk_X2_next_3 rfl rfl dX2_next_75 ?_
    refine r_get C in_X2_next_X0 1 rfl rfl 1 (by decide) lk_X2_next_4 rfl rfl dX2_next_78 ?_
    refine r_icmp_ge C 181 dX2_next_81 (by decide) hf (fun hf => ?_) (fun hf => ?_)
    · rw [← Option.some.inj hf]
      exact r_vret C hr hlk dX2_next_181
    · refine r_aload_n C dX2_next_84 rfl 0 rfl ?_
      refine r_aload_n C dX2_next_85 rfl 0 rfl ?_
      refine r_get C in_X2_next_X2 0 rfl rfl 4 (by decide) lk_X2_next_1 rfl rfl dX2_next_86 ?_
      obtain ⟨y7, hy8, hf⟩ := bd_some hf
      refine r_roV_i (As := [.int v_this_end]) (rest := []) C (c_X2_isSmall l D cyI cyZ cyW a_this a_this_text a_this_draft v_this_clauses v_this_start v_this_end a_this_text_letters v_this_text_length v_this_text_letters v_this_end y7 hy8) gX2_next_X2_isSmall rfl hyV_X2_isSmall ⟨rfl, rfl, (Nat.le_of_ble_eq_true rfl), (Nat.le_of_ble_eq_true rfl)⟩ rfl 0 rfl rfl [0, 1, 2] rfl rfl rfl (Nat.le_of_ble_eq_true rfl) ⟨Nat.zero_le _, Nat.zero_le _⟩ dX2_next_89 ?_
      refine r_if_eq C 181 dX2_next_92 (by decide) hf (fun hf => ?_) (fun hf => ?_)
      · rw [← Option.some.inj hf]
        exact r_vret C hr hlk dX2_next_181
      · refine r_aload_n C dX2_next_95 rfl 0 rfl ?_
        refine r_dup C dX2_next_96 rfl ?_
        refine r_get C in_X2_next_X2 0 rfl rfl 4 (by decide) lk_X2_next_1 rfl rfl dX2_next_97 ?_
        refine r_iconst C 1 dX2_next_100 (by decide) ?_
        refine r_iadd C dX2_next_101 ?_
        refine r_put (ws' := (w_X2_next cyI cyZ cyW a_this a_this_text a_this_draft v_this_clauses v_this_start (v_this_end + 1) a_this_text_letters v_this_text_length v_this_text_letters)) C in_X2_next_X2 tyX2 tyX2_ok nmX2 0 rfl rfl 4 (by decide) lk_X2_next_1 rfl rfl rfl rfl (Nat.le_of_ble_eq_true rfl) rfl dX2_next_102 ?_
        refine r_goto C 70 dX2_next_105 (by decide) ?_
        exact ST_lv [0] rfl (hk_70 v_this_start (v_this_end + 1) hf)
  have hb_70 : ∀ (n : Nat) (v_this_start : Int32) (v_this_end : Int32), f_X2_next_b70 v_this_text_length v_this_text_letters n v_this_start v_this_end = some res → Z (w_X2_next cyI cyZ cyW a_this a_this_text a_this_draft v_this_clauses v_this_start v_this_end a_this_text_letters v_this_text_length v_this_text_letters) 70 [(0, .ref a_this)] [] := by
    intro  n
    induction n with
    | zero => intro v_this_start v_this_end hf; exact nn_ hf
    | succ n ih => exact fun v_this_start v_this_end hf => hs_70 _ ih v_this_start v_this_end hf
  have hb_51 : ∀ (v_this_start : Int32) (v_this_end : Int32), f_X2_next_b51 v_this_text_length v_this_text_letters v_this_start v_this_end = some res → Z (w_X2_next cyI cyZ cyW a_this a_this_text a_this_draft v_this_clauses v_this_start v_this_end a_this_text_letters v_this_text_length v_this_text_letters) 51 [(0, .ref a_this)] [] := by
    subst hZ
    intro v_this_start v_this_end hf
    refine r_aload_n C dX2_next_51 rfl 0 rfl ?_
    refine r_aload_n C dX2_next_52 rfl 0 rfl ?_
    refine r_get C in_X2_next_X2 0 rfl rfl 3 (by decide) lk_X2_next_2 rfl rfl dX2_next_53 ?_
    refine r_put (ws' := (w_X2_next cyI cyZ cyW a_this a_this_text a_this_draft v_this_clauses v_this_start v_this_start a_this_text_letters v_this_text_length v_this_text_letters)) C in_X2_next_X2 tyX2 tyX2_ok nmX2 0 rfl rfl 4 (by decide) lk_X2_next_1 rfl rfl rfl rfl (Nat.le_of_ble_eq_true rfl) rfl dX2_next_56 ?_
    refine r_aload_n C dX2_next_59 rfl 0 rfl ?_
    refine r_aload_n C dX2_next_60 rfl 0 rfl ?_
    refine r_get C in_X2_next_X2 0 rfl rfl 3 (by decide) lk_X2_next_2 rfl rfl dX2_next_61 ?_
    obtain ⟨y3, hy4, hf⟩ := bd_some hf
    refine r_roV_i (As := [.int v_this_start]) (rest := []) C (c_X2_isSmall l D cyI cyZ cyW a_this a_this_text a_this_draft v_this_clauses v_this_start v_this_start a_this_text_letters v_this_text_length v_this_text_letters v_this_start y3 hy4) gX2_next_X2_isSmall rfl hyV_X2_isSmall ⟨rfl, rfl, (Nat.le_of_ble_eq_true rfl), (Nat.le_of_ble_eq_true rfl)⟩ rfl 0 rfl rfl [0, 1, 2] rfl rfl rfl (Nat.le_of_ble_eq_true rfl) ⟨Nat.zero_le _, Nat.zero_le _⟩ dX2_next_64 ?_
    refine r_if_eq C 108 dX2_next_67 (by decide) hf (fun hf => ?_) (fun hf => ?_)
    · refine r_aload_n C dX2_next_108 rfl 0 rfl ?_
      refine r_aload_n C dX2_next_109 rfl 0 rfl ?_
      refine r_get C in_X2_next_X2 0 rfl rfl 3 (by decide) lk_X2_next_2 rfl rfl dX2_next_110 ?_
      obtain ⟨y5, hy6, hf⟩ := bd_some hf
      refine r_roV_i (As := [.int v_this_start]) (rest := []) C (c_X2_isDigit l D cyI cyZ cyW a_this a_this_text a_this_draft v_this_clauses v_this_start v_this_start a_this_text_letters v_this_text_length v_this_text_letters v_this_start y5 hy6) gX2_next_X2_isDigit rfl hyV_X2_isDigit ⟨rfl, rfl, (Nat.le_of_ble_eq_true rfl), (Nat.le_of_ble_eq_true rfl)⟩ rfl 0 rfl rfl [0, 1, 2] rfl rfl rfl (Nat.le_of_ble_eq_true rfl) ⟨Nat.zero_le _, Nat.zero_le _⟩ dX2_next_113 ?_
      refine r_if_eq C 157 dX2_next_116 (by decide) hf (fun hf => ?_) (fun hf => ?_)
      · refine r_aload_n C dX2_next_157 rfl 0 rfl ?_
        refine r_get C in_X2_next_X2 0 rfl rfl 4 (by decide) lk_X2_next_1 rfl rfl dX2_next_158 ?_
        refine r_aload_n C dX2_next_161 rfl 0 rfl ?_
        refine r_get C in_X2_next_X2 0 rfl rfl 0 (by decide) lk_X2_next_3 rfl rfl dX2_next_162 ?_
        refine r_get C in_X2_next_X0 1 rfl rfl 1 (by decide) lk_X2_next_4 rfl rfl dX2_next_165 ?_
        refine r_icmp_ge C 181 dX2_next_168 (by decide) hf (fun hf => ?_) (fun hf => ?_)
        · rw [← Option.some.inj hf]
          exact r_vret C hr hlk dX2_next_181
        · refine r_aload_n C dX2_next_171 rfl 0 rfl ?_
          refine r_dup C dX2_next_172 rfl ?_
          refine r_get C in_X2_next_X2 0 rfl rfl 4 (by decide) lk_X2_next_1 rfl rfl dX2_next_173 ?_
          refine r_iconst C 1 dX2_next_176 (by decide) ?_
          refine r_iadd C dX2_next_177 ?_
          refine r_put (ws' := (w_X2_next cyI cyZ cyW a_this a_this_text a_this_draft v_this_clauses v_this_start (v_this_start + 1) a_this_text_letters v_this_text_length v_this_text_letters)) C in_X2_next_X2 tyX2 tyX2_ok nmX2 0 rfl rfl 4 (by decide) lk_X2_next_1 rfl rfl rfl rfl (Nat.le_of_ble_eq_true rfl) rfl dX2_next_178 ?_
          rw [← Option.some.inj hf]
          exact r_vret C hr hlk dX2_next_181
      · exact ST_lv [0] rfl (hb_119 5000 v_this_start v_this_start hf)
    · exact ST_lv [0] rfl (hb_70 5000 v_this_start v_this_start hf)
  have hs_8 : ∀ (k_8 : Int32 → Int32 → Option (Int32 × Int32)), (∀ (v_this_start : Int32) (v_this_end : Int32), k_8 v_this_start v_this_end = some res → Z (w_X2_next cyI cyZ cyW a_this a_this_text a_this_draft v_this_clauses v_this_start v_this_end a_this_text_letters v_this_text_length v_this_text_letters) 8 [(0, .ref a_this)] []) → ∀ (v_this_start : Int32) (v_this_end : Int32), f_X2_next_s8 v_this_text_length v_this_text_letters k_8 v_this_start v_this_end = some res → Z (w_X2_next cyI cyZ cyW a_this a_this_text a_this_draft v_this_clauses v_this_start v_this_end a_this_text_letters v_this_text_length v_this_text_letters) 8 [(0, .ref a_this)] [] := by
    subst hZ
    intro k_8 hk_8 v_this_start v_this_end hf
    refine r_aload_n C dX2_next_8 rfl 0 rfl ?_
    refine r_get C in_X2_next_X2 0 rfl rfl 3 (by decide) lk_X2_next_2 rfl rfl dX2_next_9 ?_
    refine r_aload_n C dX2_next_12 rfl 0 rfl ?_
    refine r_get C in_X2_next_X2 0 rfl rfl 0 (by decide) lk_X2_next_3 rfl rfl dX2_next_13 ?_
    refine r_get C in_X2_next_X0 1 rfl rfl 1 (by decide) lk_X2_next_4 rfl rfl dX2_next_16 ?_
    refine r_icmp_ge C 51 dX2_next_19 (by decide) hf (fun hf => ?_) (fun hf => ?_)
    · exact ST_lv [0] rfl (hb_51 v_this_start v_this_end hf)
    · refine r_aload_n C dX2_next_22 rfl 0 rfl ?_
      refine r_get C in_X2_next_X2 0 rfl rfl 0 (by decide) lk_X2_next_3 rfl rfl dX2_next_23 ?_
      refine r_aload_n C dX2_next_26 rfl 0 rfl ?_
      refine r_get C in_X2_next_X2 0 rfl rfl 3 (by decide) lk_X2_next_2 rfl rfl dX2_next_27 ?_
      obtain ⟨y1, hy2, hf⟩ := bd_some hf
      refine r_roV_i (As := [.int v_this_start]) (rest := []) C (c_X0_at l D cyI cyZ cyW a_this_text a_this_text_letters v_this_text_length v_this_text_letters v_this_start y1 hy2) gX2_next_X0_at rfl hyV_X0_at ⟨rfl, rfl, (Nat.le_of_ble_eq_true rfl), (Nat.le_of_ble_eq_true rfl)⟩ rfl 1 rfl rfl [1, 2] rfl rfl rfl (Nat.le_of_ble_eq_true rfl) ⟨Nat.zero_le _, Nat.zero_le _⟩ dX2_next_30 ?_
      refine r_bipush C 32 dX2_next_33 (by decide) ?_
      refine r_icmp_ne C 51 dX2_next_35 (by decide) hf (fun hf => ?_) (fun hf => ?_)
      · exact ST_lv [0] rfl (hb_51 v_this_start v_this_end hf)
      · refine r_aload_n C dX2_next_38 rfl 0 rfl ?_
        refine r_dup C dX2_next_39 rfl ?_
        refine r_get C in_X2_next_X2 0 rfl rfl 3 (by decide) lk_X2_next_2 rfl rfl dX2_next_40 ?_
        refine r_iconst C 1 dX2_next_43 (by decide) ?_
        refine r_iadd C dX2_next_44 ?_
        refine r_put (ws' := (w_X2_next cyI cyZ cyW a_this a_this_text a_this_draft v_this_clauses (v_this_start + 1) v_this_end a_this_text_letters v_this_text_length v_this_text_letters)) C in_X2_next_X2 tyX2 tyX2_ok nmX2 0 rfl rfl 3 (by decide) lk_X2_next_2 rfl rfl rfl rfl (Nat.le_of_ble_eq_true rfl) rfl dX2_next_45 ?_
        refine r_goto C 8 dX2_next_48 (by decide) ?_
        exact ST_lv [0] rfl (hk_8 (v_this_start + 1) v_this_end hf)
  have hb_8 : ∀ (n : Nat) (v_this_start : Int32) (v_this_end : Int32), f_X2_next_b8 v_this_text_length v_this_text_letters n v_this_start v_this_end = some res → Z (w_X2_next cyI cyZ cyW a_this a_this_text a_this_draft v_this_clauses v_this_start v_this_end a_this_text_letters v_this_text_length v_this_text_letters) 8 [(0, .ref a_this)] [] := by
    intro  n
    induction n with
    | zero => intro v_this_start v_this_end hf; exact nn_ hf
    | succ n ih => exact fun v_this_start v_this_end hf => hs_8 _ ih v_this_start v_this_end hf
  subst hZ
  refine r_aload_n C dX2_next_0 rfl 0 rfl ?_
  refine r_aload_n C dX2_next_1 rfl 0 rfl ?_
  refine r_get C in_X2_next_X2 0 rfl rfl 4 (by decide) lk_X2_next_1 rfl rfl dX2_next_2 ?_
  refine r_put (ws' := (w_X2_next cyI cyZ cyW a_this a_this_text a_this_draft v_this_clauses v_this_end v_this_end a_this_text_letters v_this_text_length v_this_text_letters)) C in_X2_next_X2 tyX2 tyX2_ok nmX2 0 rfl rfl 3 (by decide) lk_X2_next_2 rfl rfl rfl rfl (Nat.le_of_ble_eq_true rfl) rfl dX2_next_5 ?_
  exact ST_lv [0] rfl (hb_8 5000 v_this_end v_this_end hf)

theorem lk_X2_numberHere_1 : Cond.fieldLink RX2 43 "ParishCoat$Reader" "start" "I" ∈ wsX2_numberHere := List.mem_of_getElem? (i := 1) rfl
theorem lk_X2_numberHere_2 : Cond.fieldLink RX2 29 "ParishCoat$Reader" "end" "I" ∈ wsX2_numberHere := List.mem_of_getElem? (i := 2) rfl
theorem lk_X2_numberHere_3 : Cond.fieldLink RX2 12 "ParishCoat$Reader" "text" "LParishCoat$Letters;" ∈ wsX2_numberHere := List.mem_of_getElem? (i := 3) rfl
theorem in_X2_numberHere_X2 : ∀ w ∈ u_ws RX2 TX2 5, w ∈ wsX2_numberHere := fun _ h => List.mem_cons_of_mem _ (List.mem_append_left _ (List.mem_append_right _ h))
def f_X2_numberHere_s34 (v_this_start : Int32) (v_this_end : Int32) (v_this_text_length : Int32) (v_this_text_letters : Nat → Int32) (k_34 : Int32 → Int32 → Int32 → Int32 → Option (Int32)) (x1 : Int32) (x2 : Int32) (x3 : Int32) (x4 : Int32) : Option (Int32) := if v_this_end ≤ x4 then (if x3 < x1 then (some ((-1))) else (if x2 < x3 then (some ((-1))) else (some (x3)))) else ((f_X0_at v_this_text_length v_this_text_letters x4).bind fun y3 => k_34 x1 x2 (((10 * x3) + y3) - 48) (x4 + 1))
def f_X2_numberHere_b34 (v_this_start : Int32) (v_this_end : Int32) (v_this_text_length : Int32) (v_this_text_letters : Nat → Int32) (n : Nat) : Int32 → Int32 → Int32 → Int32 → Option (Int32) := it_ (f_X2_numberHere_s34 v_this_start v_this_end v_this_text_length v_this_text_letters ) (fun _ _ _ _ => none) n
def f_X2_numberHere (v_this_start : Int32) (v_this_end : Int32) (v_this_text_length : Int32) (v_this_text_letters : Nat → Int32) (x1 : Int32) (x2 : Int32) : Option (Int32) := (f_X2_isDigit v_this_text_length v_this_text_letters v_this_start).bind fun y1 => if y1 = 0 then (some ((-1))) else (if (v_this_end - v_this_start) ≤ 2 then (f_X2_numberHere_b34 v_this_start v_this_end v_this_text_length v_this_text_letters 5000 x1 x2 0 v_this_start) else (some ((-1))))
def w_X2_numberHere (cyI cyZ cyW : ClassId) (a_this : Nat) (a_this_text : Nat) (a_this_draft : Nat) (v_this_clauses : Int32) (v_this_start : Int32) (v_this_end : Int32) (a_this_text_letters : Nat) (v_this_text_length : Int32) (v_this_text_letters : Nat → Int32) : va_W := [(a_this, .inr (2, [.ref a_this_text, .ref a_this_draft, .int v_this_clauses, .int v_this_start, .int v_this_end])), (a_this_text, .inr (0, [.ref a_this_text_letters, .int v_this_text_length])), (a_this_text_letters, .inl (cyI, 160, .inl v_this_text_letters))]
set_option maxHeartbeats 4000000 in
set_option maxRecDepth 100000 in
theorem c_X2_numberHere (l : Launch) (D : va_G) (cyI cyZ cyW : ClassId) (a_this : Nat) (a_this_text : Nat) (a_this_draft : Nat) (v_this_clauses : Int32) (v_this_start : Int32) (v_this_end : Int32) (a_this_text_letters : Nat) (v_this_text_length : Int32) (v_this_text_letters : Nat → Int32) (x1 : Int32) (x2 : Int32) (res : Int32) (hf : f_X2_numberHere v_this_start v_this_end v_this_text_length v_this_text_letters x1 x2 = some res) : ∀ sz, Met l yX2_numberHere wsX2_numberHere { frames := 2, cells := 0, slots := 0, locals := 42 } (PCx D (tyG cyI cyZ cyW) [.ref a_this, .int x1, .int x2] (w_X2_numberHere cyI cyZ cyW a_this a_this_text a_this_draft v_this_clauses v_this_start v_this_end a_this_text_letters v_this_text_length v_this_text_letters) sz) (QI D (tyG cyI cyZ cyW) (w_X2_numberHere cyI cyZ cyW a_this a_this_text a_this_draft v_this_clauses v_this_start v_this_end a_this_text_letters v_this_text_length v_this_text_letters) sz res (w_X2_numberHere cyI cyZ cyW a_this a_this_text a_this_draft v_this_clauses v_this_start v_this_end a_this_text_letters v_this_text_length v_this_text_letters)) 0 0 (va_A (w_X2_numberHere cyI cyZ cyW a_this a_this_text a_this_draft v_this_clauses v_this_start v_this_end a_this_text_letters v_this_text_length v_this_text_letters) sz) := by
  intro sz
  refine met_of (cc := cX2_numberHere) (maxL := 5) (ret := (some .int)) (lv0 := [(0, .ref a_this), (1, .int x1), (2, .int x2)]) (by decide) rfl ⟨(Nat.le_of_ble_eq_true rfl), rfl⟩ ?_
  intro p e s m below meth c C hr hlk hnm hsz
  subst hsz
  have C : CX p s m _ c 5 cX2_numberHere RX2 wsX2_numberHere D (tyG cyI cyZ cyW) _ := C
  obtain ⟨Z, hZ⟩ : ∃ Z : va_W → Nat → LV → List Value → Prop, Z = ST p l e { frames := 2, cells := 0, slots := 0, locals := 42 } s m [.ref a_this, .int x1, .int x2].toArray below meth c 5 D (va_A (w_X2_numberHere cyI cyZ cyW a_this a_this_text a_this_draft v_this_clauses v_this_start v_this_end a_this_text_letters v_this_text_length v_this_text_letters) s.heap.size) (MQ below (QI D (tyG cyI cyZ cyW) (w_X2_numberHere cyI cyZ cyW a_this a_this_text a_this_draft v_this_clauses v_this_start v_this_end a_this_text_letters v_this_text_length v_this_text_letters) s.heap.size res (w_X2_numberHere cyI cyZ cyW a_this a_this_text a_this_draft v_this_clauses v_this_start v_this_end a_this_text_letters v_this_text_length v_this_text_letters)) [.ref a_this, .int x1, .int x2].toArray s 0 0 (va_A (w_X2_numberHere cyI cyZ cyW a_this a_this_text a_this_draft v_this_clauses v_this_start v_this_end a_this_text_letters v_this_text_length v_this_text_letters) s.heap.size)) 0 0 := ⟨_, rfl⟩
  have hs_34 : ∀ (k_34 : Int32 → Int32 → Int32 → Int32 → Option (Int32)), (∀ (x1 : Int32) (x2 : Int32) (x3 : Int32) (x4 : Int32), k_34 x1 x2 x3 x4 = some res → Z (w_X2_numberHere cyI cyZ cyW a_this a_this_text a_this_draft v_this_clauses v_this_start v_this_end a_this_text_letters v_this_text_length v_this_text_letters) 34 [(0, .ref a_this), (1, .int x1), (2, .int x2), (3, .int x3), (4, .int x4)] []) → ∀ (x1 : Int32) (x2 : Int32) (x3 : Int32) (x4 : Int32), f_X2_numberHere_s34 v_this_start v_this_end v_this_text_length v_this_text_letters k_34 x1 x2 x3 x4 = some res → Z (w_X2_numberHere cyI cyZ cyW a_this a_this_text a_this_draft v_this_clauses v_this_start v_this_end a_this_text_letters v_this_text_length v_this_text_letters) 34 [(0, .ref a_this), (1, .int x1), (2, .int x2), (3, .int x3), (4, .int x4)] [] := by
    subst hZ
    intro k_34 hk_34 x1 x2 x3 x4 hf
    refine r_iload C dX2_numberHere_34 4 rfl ?_
    refine r_aload_n C dX2_numberHere_36 rfl 0 rfl ?_
    refine r_get C in_X2_numberHere_X2 0 rfl rfl 4 (by decide) lk_X2_numberHere_2 rfl rfl dX2_numberHere_37 ?_
    refine r_icmp_ge C 67 dX2_numberHere_40 (by decide) hf (fun hf => ?_) (fun hf => ?_)
    · refine r_iload_n C dX2_numberHere_67 rfl 3 rfl ?_
      refine r_iload_n C dX2_numberHere_68 rfl 1 rfl ?_
      refine r_icmp_lt C 81 dX2_numberHere_69 (by decide) hf (fun hf => ?_) (fun hf => ?_)
      · refine r_iconst C (-1) dX2_numberHere_81 (by decide) ?_
        rw [← Option.some.inj hf]
        exact r_iret C hr hlk dX2_numberHere_82
      · refine r_iload_n C dX2_numberHere_72 rfl 3 rfl ?_
        refine r_iload_n C dX2_numberHere_73 rfl 2 rfl ?_
        refine r_icmp_gt C 81 dX2_numberHere_74 (by decide) hf (fun hf => ?_) (fun hf => ?_)
        · refine r_iconst C (-1) dX2_numberHere_81 (by decide) ?_
          rw [← Option.some.inj hf]
          exact r_iret C hr hlk dX2_numberHere_82
        · refine r_iload_n C dX2_numberHere_77 rfl 3 rfl ?_
          refine r_goto C 82 dX2_numberHere_78 (by decide) ?_
          rw [← Option.some.inj hf]
          exact r_iret C hr hlk dX2_numberHere_82
    · refine r_bipush C 10 dX2_numberHere_43 (by decide) ?_
      refine r_iload_n C dX2_numberHere_45 rfl 3 rfl ?_
      refine r_imul C dX2_numberHere_46 ?_
      refine r_aload_n C dX2_numberHere_47 rfl 0 rfl ?_
      refine r_get C in_X2_numberHere_X2 0 rfl rfl 0 (by decide) lk_X2_numberHere_3 rfl rfl dX2_numberHere_48 ?_
      refine r_iload C dX2_numberHere_51 4 rfl ?_
      obtain ⟨y3, hy4, hf⟩ := bd_some hf
      refine r_roV_i (As := [.int x4]) (rest := [.int (10 * x3)]) C (c_X0_at l D cyI cyZ cyW a_this_text a_this_text_letters v_this_text_length v_this_text_letters x4 y3 hy4) gX2_numberHere_X0_at rfl hyV_X0_at ⟨rfl, rfl, (Nat.le_of_ble_eq_true rfl), (Nat.le_of_ble_eq_true rfl)⟩ rfl 1 rfl rfl [1, 2] rfl rfl rfl (Nat.le_of_ble_eq_true rfl) ⟨Nat.zero_le _, Nat.zero_le _⟩ dX2_numberHere_53 ?_
      refine r_iadd C dX2_numberHere_56 ?_
      refine r_bipush C 48 dX2_numberHere_57 (by decide) ?_
      refine r_isub C dX2_numberHere_59 ?_
      refine r_istore_n (lv' := [(3, .int (((10 * x3) + y3) - 48)), (0, .ref a_this), (1, .int x1), (2, .int x2), (4, .int x4)]) C dX2_numberHere_60 rfl (by decide) rfl ?_
      refine r_iinc (v := 1) (k := 4) (lv' := [(4, .int (x4 + 1)), (3, .int (((10 * x3) + y3) - 48)), (0, .ref a_this), (1, .int x1), (2, .int x2)]) C dX2_numberHere_61 rfl (by decide) (by decide) rfl ?_
      refine r_goto C 34 dX2_numberHere_64 (by decide) ?_
      exact ST_lv [2, 3, 4, 1, 0] rfl (hk_34 x1 x2 (((10 * x3) + y3) - 48) (x4 + 1) hf)
  have hb_34 : ∀ (n : Nat) (x1 : Int32) (x2 : Int32) (x3 : Int32) (x4 : Int32), f_X2_numberHere_b34 v_this_start v_this_end v_this_text_length v_this_text_letters n x1 x2 x3 x4 = some res → Z (w_X2_numberHere cyI cyZ cyW a_this a_this_text a_this_draft v_this_clauses v_this_start v_this_end a_this_text_letters v_this_text_length v_this_text_letters) 34 [(0, .ref a_this), (1, .int x1), (2, .int x2), (3, .int x3), (4, .int x4)] [] := by
    intro  n
    induction n with
    | zero => intro x1 x2 x3 x4 hf; exact nn_ hf
    | succ n ih => exact fun x1 x2 x3 x4 hf => hs_34 _ ih x1 x2 x3 x4 hf
  subst hZ
  refine r_aload_n C dX2_numberHere_0 rfl 0 rfl ?_
  refine r_aload_n C dX2_numberHere_1 rfl 0 rfl ?_
  refine r_get C in_X2_numberHere_X2 0 rfl rfl 3 (by decide) lk_X2_numberHere_1 rfl rfl dX2_numberHere_2 ?_
  obtain ⟨y1, hy2, hf⟩ := bd_some hf
  refine r_roV_i (As := [.int v_this_start]) (rest := []) C (c_X2_isDigit l D cyI cyZ cyW a_this a_this_text a_this_draft v_this_clauses v_this_start v_this_end a_this_text_letters v_this_text_length v_this_text_letters v_this_start y1 hy2) gX2_numberHere_X2_isDigit rfl hyV_X2_isDigit ⟨rfl, rfl, (Nat.le_of_ble_eq_true rfl), (Nat.le_of_ble_eq_true rfl)⟩ rfl 0 rfl rfl [0, 1, 2] rfl rfl rfl (Nat.le_of_ble_eq_true rfl) ⟨Nat.zero_le _, Nat.zero_le _⟩ dX2_numberHere_5 ?_
  refine r_if_eq C 24 dX2_numberHere_8 (by decide) hf (fun hf => ?_) (fun hf => ?_)
  · refine r_iconst C (-1) dX2_numberHere_24 (by decide) ?_
    rw [← Option.some.inj hf]
    exact r_iret C hr hlk dX2_numberHere_25
  · refine r_aload_n C dX2_numberHere_11 rfl 0 rfl ?_
    refine r_get C in_X2_numberHere_X2 0 rfl rfl 4 (by decide) lk_X2_numberHere_2 rfl rfl dX2_numberHere_12 ?_
    refine r_aload_n C dX2_numberHere_15 rfl 0 rfl ?_
    refine r_get C in_X2_numberHere_X2 0 rfl rfl 3 (by decide) lk_X2_numberHere_1 rfl rfl dX2_numberHere_16 ?_
    refine r_isub C dX2_numberHere_19 ?_
    refine r_iconst C 2 dX2_numberHere_20 (by decide) ?_
    refine r_icmp_le C 26 dX2_numberHere_21 (by decide) hf (fun hf => ?_) (fun hf => ?_)
    · refine r_iconst C 0 dX2_numberHere_26 (by decide) ?_
      refine r_istore_n (lv' := [(3, .int 0), (0, .ref a_this), (1, .int x1), (2, .int x2)]) C dX2_numberHere_27 rfl (by decide) rfl ?_
      refine r_aload_n C dX2_numberHere_28 rfl 1 rfl ?_
      refine r_get C in_X2_numberHere_X2 0 rfl rfl 3 (by decide) lk_X2_numberHere_1 rfl rfl dX2_numberHere_29 ?_
      refine r_istore (lv' := [(4, .int v_this_start), (3, .int 0), (0, .ref a_this), (1, .int x1), (2, .int x2)]) C dX2_numberHere_32 (by decide) rfl ?_
      exact ST_lv [2, 3, 4, 1, 0] rfl (hb_34 5000 x1 x2 0 v_this_start hf)
    · refine r_iconst C (-1) dX2_numberHere_24 (by decide) ?_
      rw [← Option.some.inj hf]
      exact r_iret C hr hlk dX2_numberHere_25

theorem lk_X2_hasRoomFor_1 : Cond.fieldLink RX2 21 "ParishCoat$Reader" "draft" "LParishCoat$Told;" ∈ wsX2_hasRoomFor := List.mem_of_getElem? (i := 1) rfl
theorem lk_X2_hasRoomFor_2 : Cond.fieldLink RX2 70 "ParishCoat$Told" "coldCount" "I" ∈ wsX2_hasRoomFor := List.mem_of_getElem? (i := 2) rfl
theorem lk_X2_hasRoomFor_3 : Cond.fieldLink RX2 118 "ParishCoat$Told" "families" "I" ∈ wsX2_hasRoomFor := List.mem_of_getElem? (i := 3) rfl
theorem in_X2_hasRoomFor_X2 : ∀ w ∈ u_ws RX2 TX2 5, w ∈ wsX2_hasRoomFor := fun _ h => List.mem_cons_of_mem _ (List.mem_append_left _ (List.mem_append_right _ h))
theorem in_X2_hasRoomFor_X5 : ∀ w ∈ u_ws RX5 TX5 8, w ∈ wsX2_hasRoomFor := fun _ h => List.mem_cons_of_mem _ (List.mem_append_right _ h)
def f_X2_hasRoomFor_b41 (v_this_draft_families : Int32) (v_this_draft_coldCount : Int32) : Option (Int32) := some (1)
def f_X2_hasRoomFor (v_this_draft_families : Int32) (v_this_draft_coldCount : Int32) (x1 : Int32) : Option (Int32) := if x1 = 7 then (if 6 ≤ v_this_draft_coldCount then (some (0)) else (some (1))) else (if 3 < x1 then (f_X2_hasRoomFor_b41 v_this_draft_families v_this_draft_coldCount ) else (if 7 ≤ v_this_draft_families then (some (0)) else (f_X2_hasRoomFor_b41 v_this_draft_families v_this_draft_coldCount )))
def w_X2_hasRoomFor (cyI cyZ cyW : ClassId) (a_this : Nat) (a_this_text : Nat) (a_this_draft : Nat) (v_this_clauses : Int32) (v_this_start : Int32) (v_this_end : Int32) (v_this_draft_families : Int32) (v_this_draft_quota : Int32) (v_this_draft_coldCount : Int32) (a_this_draft_kinds : Nat) (a_this_draft_warmths : Nat) (a_this_draft_prices : Nat) (a_this_draft_favourers : Nat) (a_this_draft_colds : Nat) : va_W := [(a_this, .inr (2, [.ref a_this_text, .ref a_this_draft, .int v_this_clauses, .int v_this_start, .int v_this_end])), (a_this_draft, .inr (5, [.int v_this_draft_families, .int v_this_draft_quota, .int v_this_draft_coldCount, .ref a_this_draft_kinds, .ref a_this_draft_warmths, .ref a_this_draft_prices, .ref a_this_draft_favourers, .ref a_this_draft_colds]))]
set_option maxHeartbeats 4000000 in
set_option maxRecDepth 100000 in
theorem c_X2_hasRoomFor (l : Launch) (D : va_G) (cyI cyZ cyW : ClassId) (a_this : Nat) (a_this_text : Nat) (a_this_draft : Nat) (v_this_clauses : Int32) (v_this_start : Int32) (v_this_end : Int32) (v_this_draft_families : Int32) (v_this_draft_quota : Int32) (v_this_draft_coldCount : Int32) (a_this_draft_kinds : Nat) (a_this_draft_warmths : Nat) (a_this_draft_prices : Nat) (a_this_draft_favourers : Nat) (a_this_draft_colds : Nat) (x1 : Int32) (res : Int32) (hf : f_X2_hasRoomFor v_this_draft_families v_this_draft_coldCount x1 = some res) : ∀ sz, Met l yX2_hasRoomFor wsX2_hasRoomFor { frames := 0, cells := 0, slots := 0, locals := 0 } (PCx D (tyG cyI cyZ cyW) [.ref a_this, .int x1] (w_X2_hasRoomFor cyI cyZ cyW a_this a_this_text a_this_draft v_this_clauses v_this_start v_this_end v_this_draft_families v_this_draft_quota v_this_draft_coldCount a_this_draft_kinds a_this_draft_warmths a_this_draft_prices a_this_draft_favourers a_this_draft_colds) sz) (QI D (tyG cyI cyZ cyW) (w_X2_hasRoomFor cyI cyZ cyW a_this a_this_text a_this_draft v_this_clauses v_this_start v_this_end v_this_draft_families v_this_draft_quota v_this_draft_coldCount a_this_draft_kinds a_this_draft_warmths a_this_draft_prices a_this_draft_favourers a_this_draft_colds) sz res (w_X2_hasRoomFor cyI cyZ cyW a_this a_this_text a_this_draft v_this_clauses v_this_start v_this_end v_this_draft_families v_this_draft_quota v_this_draft_coldCount a_this_draft_kinds a_this_draft_warmths a_this_draft_prices a_this_draft_favourers a_this_draft_colds)) 0 0 (va_A (w_X2_hasRoomFor cyI cyZ cyW a_this a_this_text a_this_draft v_this_clauses v_this_start v_this_end v_this_draft_families v_this_draft_quota v_this_draft_coldCount a_this_draft_kinds a_this_draft_warmths a_this_draft_prices a_this_draft_favourers a_this_draft_colds) sz) := by
  intro sz
  refine met_of (cc := cX2_hasRoomFor) (maxL := 2) (ret := (some .boolean)) (lv0 := [(0, .ref a_this), (1, .int x1)]) (by decide) rfl ⟨(Nat.le_of_ble_eq_true rfl), rfl⟩ ?_
  intro p e s m below meth c C hr hlk hnm hsz
  subst hsz
  have C : CX p s m _ c 2 cX2_hasRoomFor RX2 wsX2_hasRoomFor D (tyG cyI cyZ cyW) _ := C
  obtain ⟨Z, hZ⟩ : ∃ Z : va_W → Nat → LV → List Value → Prop, Z = ST p l e { frames := 0, cells := 0, slots := 0, locals := 0 } s m [.ref a_this, .int x1].toArray below meth c 2 D (va_A (w_X2_hasRoomFor cyI cyZ cyW a_this a_this_text a_this_draft v_this_clauses v_this_start v_this_end v_this_draft_families v_this_draft_quota v_this_draft_coldCount a_this_draft_kinds a_this_draft_warmths a_this_draft_prices a_this_draft_favourers a_this_draft_colds) s.heap.size) (MQ below (QI D (tyG cyI cyZ cyW) (w_X2_hasRoomFor cyI cyZ cyW a_this a_this_text a_this_draft v_this_clauses v_this_start v_this_end v_this_draft_families v_this_draft_quota v_this_draft_coldCount a_this_draft_kinds a_this_draft_warmths a_this_draft_prices a_this_draft_favourers a_this_draft_colds) s.heap.size res (w_X2_hasRoomFor cyI cyZ cyW a_this a_this_text a_this_draft v_this_clauses v_this_start v_this_end v_this_draft_families v_this_draft_quota v_this_draft_coldCount a_this_draft_kinds a_this_draft_warmths a_this_draft_prices a_this_draft_favourers a_this_draft_colds)) [.ref a_this, .int x1].toArray s 0 0 (va_A (w_X2_hasRoomFor cyI cyZ cyW a_this a_this_text a_this_draft v_this_clauses v_this_start v_this_end v_this_draft_families v_this_draft_quota v_this_draft_coldCount a_this_draft_kinds a_this_draft_warmths a_this_draft_prices a_this_draft_favourers a_this_draft_colds) s.heap.size)) 0 0 := ⟨_, rfl⟩
  have hb_41 : f_X2_hasRoomFor_b41 v_this_draft_families v_this_draft_coldCount = some res → Z (w_X2_hasRoomFor cyI cyZ cyW a_this a_this_text a_this_draft v_this_clauses v_this_start v_this_end v_this_draft_families v_this_draft_quota v_this_draft_coldCount a_this_draft_kinds a_this_draft_warmths a_this_draft_prices a_this_draft_favourers a_this_draft_colds) 41 [] [] := by
    subst hZ
    intro hf
    refine r_iconst C 1 dX2_hasRoomFor_41 (by decide) ?_
    refine r_goto C 46 dX2_hasRoomFor_42 (by decide) ?_
    rw [← Option.some.inj hf]
    exact r_zret (r := 1) C hr hlk rfl dX2_hasRoomFor_46
  subst hZ
  refine r_iload_n C dX2_hasRoomFor_0 rfl 1 rfl ?_
  refine r_bipush C 7 dX2_hasRoomFor_1 (by decide) ?_
  refine r_icmp_ne C 24 dX2_hasRoomFor_3 (by decide) hf (fun hf => ?_) (fun hf => ?_)
  · refine r_iload_n C dX2_hasRoomFor_24 rfl 1 rfl ?_
    refine r_iconst C 3 dX2_hasRoomFor_25 (by decide) ?_
    refine r_icmp_gt C 41 dX2_hasRoomFor_26 (by decide) hf (fun hf => ?_) (fun hf => ?_)
    · exact ST_lv [] rfl (hb_41 hf)
    · refine r_aload_n C dX2_hasRoomFor_29 rfl 0 rfl ?_
      refine r_get C in_X2_hasRoomFor_X2 0 rfl rfl 1 (by decide) lk_X2_hasRoomFor_1 rfl rfl dX2_hasRoomFor_30 ?_
      refine r_get C in_X2_hasRoomFor_X5 1 rfl rfl 0 (by decide) lk_X2_hasRoomFor_3 rfl rfl dX2_hasRoomFor_33 ?_
      refine r_bipush C 7 dX2_hasRoomFor_36 (by decide) ?_
      refine r_icmp_ge C 45 dX2_hasRoomFor_38 (by decide) hf (fun hf => ?_) (fun hf => ?_)
      · refine r_iconst C 0 dX2_hasRoomFor_45 (by decide) ?_
        rw [← Option.some.inj hf]
        exact r_zret (r := 0) C hr hlk rfl dX2_hasRoomFor_46
      · exact ST_lv [] rfl (hb_41 hf)
  · refine r_aload_n C dX2_hasRoomFor_6 rfl 0 rfl ?_
    refine r_get C in_X2_hasRoomFor_X2 0 rfl rfl 1 (by decide) lk_X2_hasRoomFor_1 rfl rfl dX2_hasRoomFor_7 ?_
    refine r_get C in_X2_hasRoomFor_X5 1 rfl rfl 2 (by decide) lk_X2_hasRoomFor_2 rfl rfl dX2_hasRoomFor_10 ?_
    refine r_bipush C 6 dX2_hasRoomFor_13 (by decide) ?_
    refine r_icmp_ge C 22 dX2_hasRoomFor_15 (by decide) hf (fun hf => ?_) (fun hf => ?_)
    · refine r_iconst C 0 dX2_hasRoomFor_22 (by decide) ?_
      rw [← Option.some.inj hf]
      exact r_zret (r := 0) C hr hlk rfl dX2_hasRoomFor_23
    · refine r_iconst C 1 dX2_hasRoomFor_18 (by decide) ?_
      refine r_goto C 23 dX2_hasRoomFor_19 (by decide) ?_
      rw [← Option.some.inj hf]
      exact r_zret (r := 1) C hr hlk rfl dX2_hasRoomFor_23

theorem lk_X2_isWord_1 : Cond.fieldLink RX2 29 "ParishCoat$Reader" "end" "I" ∈ wsX2_isWord := List.mem_of_getElem? (i := 1) rfl
theorem lk_X2_isWord_2 : Cond.fieldLink RX2 43 "ParishCoat$Reader" "start" "I" ∈ wsX2_isWord := List.mem_of_getElem? (i := 2) rfl
theorem lk_X2_isWord_3 : Cond.fieldLink RX2 12 "ParishCoat$Reader" "text" "LParishCoat$Letters;" ∈ wsX2_isWord := List.mem_of_getElem? (i := 3) rfl
theorem in_X2_isWord_X2 : ∀ w ∈ u_ws RX2 TX2 5, w ∈ wsX2_isWord := fun _ h => List.mem_cons_of_mem _ (List.mem_append_left _ (List.mem_append_right _ h))
def f_X2_isWord_s20 (N : Nat) (b : Nat → Int32) (v_this_start : Int32) (v_this_end : Int32) (v_this_text_length : Int32) (v_this_text_letters : Nat → Int32) (k_20 : Int32 → Option (Int32)) (x2 : Int32) : Option (Int32) := if (Int32.ofNat N >>> ((0 : Int32) &&& 31)) ≤ x2 then (some (1)) else ((f_X0_at v_this_text_length v_this_text_letters (v_this_start + x2)).bind fun y1 => gd_ x2 N (if y1 = (chS b x2) then (k_20 (x2 + 1)) else (some (0))))
def f_X2_isWord_b20 (N : Nat) (b : Nat → Int32) (v_this_start : Int32) (v_this_end : Int32) (v_this_text_length : Int32) (v_this_text_letters : Nat → Int32) (n : Nat) : Int32 → Option (Int32) := it_ (f_X2_isWord_s20 N b v_this_start v_this_end v_this_text_length v_this_text_letters ) (fun _ => none) n
def f_X2_isWord (N : Nat) (b : Nat → Int32) (v_this_start : Int32) (v_this_end : Int32) (v_this_text_length : Int32) (v_this_text_letters : Nat → Int32) : Option (Int32) := if (v_this_end - v_this_start) = (Int32.ofNat N >>> ((0 : Int32) &&& 31)) then (f_X2_isWord_b20 N b v_this_start v_this_end v_this_text_length v_this_text_letters 5000 0) else (some (0))
def w_X2_isWord (cyI cyZ cyW : ClassId) (a_this : Nat) (a_this_text : Nat) (a_this_draft : Nat) (v_this_clauses : Int32) (v_this_start : Int32) (v_this_end : Int32) (a_this_text_letters : Nat) (v_this_text_length : Int32) (v_this_text_letters : Nat → Int32) (a_p0 : Nat) : va_W := [(a_this, .inr (2, [.ref a_this_text, .ref a_this_draft, .int v_this_clauses, .int v_this_start, .int v_this_end])), (a_this_text, .inr (0, [.ref a_this_text_letters, .int v_this_text_length])), (a_this_text_letters, .inl (cyI, 160, .inl v_this_text_letters))]
set_option maxHeartbeats 4000000 in
set_option maxRecDepth 100000 in
theorem c_X2_isWord (l : Launch) (D : va_G) (cyI cyZ cyW : ClassId) (N : Nat) (b : Nat → Int32) (hN : N < 2 ^ 31) (a_this : Nat) (a_this_text : Nat) (a_this_draft : Nat) (v_this_clauses : Int32) (v_this_start : Int32) (v_this_end : Int32) (a_this_text_letters : Nat) (v_this_text_length : Int32) (v_this_text_letters : Nat → Int32) (a_p0 : Nat) (res : Int32) (hf : f_X2_isWord N b v_this_start v_this_end v_this_text_length v_this_text_letters = some res) : ∀ sz, Met l yX2_isWord wsX2_isWord { frames := 4, cells := 0, slots := 0, locals := 100 } (PCe D (tyG cyI cyZ cyW) (STR N b a_p0) [.ref a_this, .ref a_p0] (w_X2_isWord cyI cyZ cyW a_this a_this_text a_this_draft v_this_clauses v_this_start v_this_end a_this_text_letters v_this_text_length v_this_text_letters a_p0) sz) (QI D (tyG cyI cyZ cyW) (w_X2_isWord cyI cyZ cyW a_this a_this_text a_this_draft v_this_clauses v_this_start v_this_end a_this_text_letters v_this_text_length v_this_text_letters a_p0) sz res (w_X2_isWord cyI cyZ cyW a_this a_this_text a_this_draft v_this_clauses v_this_start v_this_end a_this_text_letters v_this_text_length v_this_text_letters a_p0)) 0 0 (va_A (w_X2_isWord cyI cyZ cyW a_this a_this_text a_this_draft v_this_clauses v_this_start v_this_end a_this_text_letters v_this_text_length v_this_text_letters a_p0) sz) := by
  intro sz
  refine met_ofE (cc := cX2_isWord) (maxL := 3) (ret := (some .boolean)) (lv0 := [(0, .ref a_this), (1, .ref a_p0)]) (by decide) rfl ⟨(Nat.le_of_ble_eq_true rfl), rfl⟩ ?_
  intro p e s m below meth c C hE hr hlk hnm hsz
  subst hsz
  obtain ⟨vS, hrecv, hrest⟩ := id hE
  have C : CX p s m _ c 3 cX2_isWord RX2 wsX2_isWord D (tyG cyI cyZ cyW) _ := C
  obtain ⟨Z, hZ⟩ : ∃ Z : va_W → Nat → LV → List Value → Prop, Z = ST p l e { frames := 4, cells := 0, slots := 0, locals := 100 } s m [.ref a_this, .ref a_p0].toArray below meth c 3 D (va_A (w_X2_isWord cyI cyZ cyW a_this a_this_text a_this_draft v_this_clauses v_this_start v_this_end a_this_text_letters v_this_text_length v_this_text_letters a_p0) s.heap.size) (MQ below (QI D (tyG cyI cyZ cyW) (w_X2_isWord cyI cyZ cyW a_this a_this_text a_this_draft v_this_clauses v_this_start v_this_end a_this_text_letters v_this_text_length v_this_text_letters a_p0) s.heap.size res (w_X2_isWord cyI cyZ cyW a_this a_this_text a_this_draft v_this_clauses v_this_start v_this_end a_this_text_letters v_this_text_length v_this_text_letters a_p0)) [.ref a_this, .ref a_p0].toArray s 0 0 (va_A (w_X2_isWord cyI cyZ cyW a_this a_this_text a_this_draft v_this_clauses v_this_start v_this_end a_this_text_letters v_this_text_length v_this_text_letters a_p0) s.heap.size)) 0 0 := ⟨_, rfl⟩
  have hs_20 : ∀ (k_20 : Int32 → Option (Int32)), (∀ (x2 : Int32), k_20 x2 = some res → Z (w_X2_isWord cyI cyZ cyW a_this a_this_text a_this_draft v_this_clauses v_this_start v_this_end a_this_text_letters v_this_text_length v_this_text_letters a_p0) 20 [(0, .ref a_this), (1, .ref a_p0), (2, .int x2)] []) → ∀ (x2 : Int32), f_X2_isWord_s20 N b v_this_start v_this_end v_this_text_length v_this_text_letters k_20 x2 = some res → Z (w_X2_isWord cyI cyZ cyW a_this a_this_text a_this_draft v_this_clauses v_this_start v_this_end a_this_text_letters v_this_text_length v_this_text_letters a_p0) 20 [(0, .ref a_this), (1, .ref a_p0), (2, .int x2)] [] := by
    subst hZ
    intro k_20 hk_20 x2 hf
    refine r_iload_n C dX2_isWord_20 rfl 2 rfl ?_
    refine r_aload_n C dX2_isWord_21 rfl 1 rfl ?_
    refine r_roVO_i (As := []) (rest := [.int x2]) C (OP_STR N b a_p0) hE (c_J0_length_8abf5 l D cyI cyZ cyW N b a_p0) gX2_isWord_J0_length_8abf5 rfl hyV_J0_length_8abf5 ⟨rfl, rfl, (Nat.le_of_ble_eq_true rfl), (Nat.le_of_ble_eq_true rfl)⟩ rfl hrecv [] rfl rfl rfl (Nat.le_of_ble_eq_true rfl) ⟨Nat.zero_le _, Nat.zero_le _⟩ dX2_isWord_22 ?_
    refine r_icmp_ge C 57 dX2_isWord_25 (by decide) hf (fun hf => ?_) (fun hf => ?_)
    · refine r_iconst C 1 dX2_isWord_57 (by decide) ?_
      rw [← Option.some.inj hf]
      exact r_zret (r := 1) C hr hlk rfl dX2_isWord_58
    · refine r_aload_n C dX2_isWord_28 rfl 0 rfl ?_
      refine r_get C in_X2_isWord_X2 0 rfl rfl 0 (by decide) lk_X2_isWord_3 rfl rfl dX2_isWord_29 ?_
      refine r_aload_n C dX2_isWord_32 rfl 0 rfl ?_
      refine r_get C in_X2_isWord_X2 0 rfl rfl 3 (by decide) lk_X2_isWord_2 rfl rfl dX2_isWord_33 ?_
      refine r_iload_n C dX2_isWord_36 rfl 2 rfl ?_
      refine r_iadd C dX2_isWord_37 ?_
      obtain ⟨y1, hy2, hf⟩ := bd_some hf
      refine r_roV_i (As := [.int (v_this_start + x2)]) (rest := []) C (c_X0_at l D cyI cyZ cyW a_this_text a_this_text_letters v_this_text_length v_this_text_letters (v_this_start + x2) y1 hy2) gX2_isWord_X0_at rfl hyV_X0_at ⟨rfl, rfl, (Nat.le_of_ble_eq_true rfl), (Nat.le_of_ble_eq_true rfl)⟩ rfl 1 rfl rfl [1, 2] rfl rfl rfl (Nat.le_of_ble_eq_true rfl) ⟨Nat.zero_le _, Nat.zero_le _⟩ dX2_isWord_38 ?_
      refine r_aload_n C dX2_isWord_41 rfl 1 rfl ?_
      refine r_iload_n C dX2_isWord_42 rfl 2 rfl ?_
      obtain ⟨hi3, hf⟩ := gd_some hf
      refine r_roVO_i (As := [.int x2]) (rest := [.int y1]) C (OP_STR N b a_p0) hE (c_J0_charAt_5068e l D cyI cyZ cyW N b a_p0 x2 hN hi3) gX2_isWord_J0_charAt_5068e rfl hyV_J0_charAt_5068e ⟨rfl, rfl, (Nat.le_of_ble_eq_true rfl), (Nat.le_of_ble_eq_true rfl)⟩ rfl hrecv [] rfl rfl rfl (Nat.le_of_ble_eq_true rfl) ⟨Nat.zero_le _, Nat.zero_le _⟩ dX2_isWord_43 ?_
      refine r_icmp_eq C 51 dX2_isWord_46 (by decide) hf (fun hf => ?_) (fun hf => ?_)
      · refine r_iinc (v := 1) (k := 2) (lv' := [(2, .int (x2 + 1)), (0, .ref a_this), (1, .ref a_p0)]) C dX2_isWord_51 rfl (by decide) (by decide) rfl ?_
        refine r_goto C 20 dX2_isWord_54 (by decide) ?_
        exact ST_lv [1, 2, 0] rfl (hk_20 (x2 + 1) hf)
      · refine r_iconst C 0 dX2_isWord_49 (by decide) ?_
        rw [← Option.some.inj hf]
        exact r_zret (r := 0) C hr hlk rfl dX2_isWord_50
  have hb_20 : ∀ (n : Nat) (x2 : Int32), f_X2_isWord_b20 N b v_this_start v_this_end v_this_text_length v_this_text_letters n x2 = some res → Z (w_X2_isWord cyI cyZ cyW a_this a_this_text a_this_draft v_this_clauses v_this_start v_this_end a_this_text_letters v_this_text_length v_this_text_letters a_p0) 20 [(0, .ref a_this), (1, .ref a_p0), (2, .int x2)] [] := by
    intro  n
    induction n with
    | zero => intro x2 hf; exact nn_ hf
    | succ n ih => exact fun x2 hf => hs_20 _ ih x2 hf
  subst hZ
  refine r_aload_n C dX2_isWord_0 rfl 0 rfl ?_
  refine r_get C in_X2_isWord_X2 0 rfl rfl 4 (by decide) lk_X2_isWord_1 rfl rfl dX2_isWord_1 ?_
  refine r_aload_n C dX2_isWord_4 rfl 0 rfl ?_
  refine r_get C in_X2_isWord_X2 0 rfl rfl 3 (by decide) lk_X2_isWord_2 rfl rfl dX2_isWord_5 ?_
  refine r_isub C dX2_isWord_8 ?_
  refine r_aload_n C dX2_isWord_9 rfl 1 rfl ?_
  refine r_roVO_i (As := []) (rest := [.int (v_this_end - v_this_start)]) C (OP_STR N b a_p0) hE (c_J0_length_8abf5 l D cyI cyZ cyW N b a_p0) gX2_isWord_J0_length_8abf5 rfl hyV_J0_length_8abf5 ⟨rfl, rfl, (Nat.le_of_ble_eq_true rfl), (Nat.le_of_ble_eq_true rfl)⟩ rfl hrecv [] rfl rfl rfl (Nat.le_of_ble_eq_true rfl) ⟨Nat.zero_le _, Nat.zero_le _⟩ dX2_isWord_10 ?_
  refine r_icmp_eq C 18 dX2_isWord_13 (by decide) hf (fun hf => ?_) (fun hf => ?_)
  · refine r_iconst C 0 dX2_isWord_18 (by decide) ?_
    refine r_istore_n (lv' := [(2, .int 0), (0, .ref a_this), (1, .ref a_p0)]) C dX2_isWord_19 rfl (by decide) rfl ?_
    exact ST_lv [1, 2, 0] rfl (hb_20 5000 0 hf)
  · refine r_iconst C 0 dX2_isWord_16 (by decide) ?_
    rw [← Option.some.inj hf]
    exact r_zret (r := 0) C hr hlk rfl dX2_isWord_17

theorem hyV_X2_isWord : yX2_isWord.cls = RX2 ∧ yX2_isWord.cls ≠ "java/lang/invoke/MethodHandle" ∧ yX2_isWord.cls ≠ "java/lang/invoke/VarHandle" ∧ (parseMethodDescriptor yX2_isWord.desc).map (fun d => d.parameters.length) = some 1 := by decide +kernel
theorem hyS_X2_isWord : yX2_isWord.cls ≠ "java/lang/invoke/MethodHandle" ∧ yX2_isWord.cls ≠ "java/lang/invoke/VarHandle" ∧ (parseMethodDescriptor yX2_isWord.desc).map (fun d => d.parameters.length) = some 1 := by decide +kernel
def f_X2_wordHere (v_this_start : Int32) (v_this_end : Int32) (v_this_text_length : Int32) (v_this_text_letters : Nat → Int32) : Option (Int32) := (f_X2_isWord 4 (bS [98, 111, 110, 101]) v_this_start v_this_end v_this_text_length v_this_text_letters).bind fun y1 => if y1 = 0 then ((f_X2_isWord 5 (bS [98, 114, 97, 115, 115]) v_this_start v_this_end v_this_text_length v_this_text_letters).bind fun y3 => if y3 = 0 then ((f_X2_isWord 5 (bS [112, 101, 97, 114, 108]) v_this_start v_this_end v_this_text_length v_this_text_letters).bind fun y5 => if y5 = 0 then ((f_X2_isWord 5 (bS [108, 111, 111, 115, 101]) v_this_start v_this_end v_this_text_length v_this_text_letters).bind fun y7 => if y7 = 0 then ((f_X2_isWord 6 (bS [102, 97, 118, 111, 117, 114]) v_this_start v_this_end v_this_text_length v_this_text_letters).bind fun y9 => if y9 = 0 then ((f_X2_isWord 4 (bS [102, 101, 117, 100]) v_this_start v_this_end v_this_text_length v_this_text_letters).bind fun y11 => if y11 = 0 then ((f_X2_isWord 5 (bS [113, 117, 111, 116, 97]) v_this_start v_this_end v_this_text_length v_this_text_letters).bind fun y13 => if y13 = 0 then ((f_X2_isWord 4 (bS [99, 111, 108, 100]) v_this_start v_this_end v_this_text_length v_this_text_letters).bind fun y15 => if y15 = 0 then ((f_X2_isWord 4 (bS [109, 105, 108, 100]) v_this_start v_this_end v_this_text_length v_this_text_letters).bind fun y17 => if y17 = 0 then ((f_X2_isWord 4 (bS [99, 111, 97, 116]) v_this_start v_this_end v_this_text_length v_this_text_letters).bind fun y19 => if y19 = 0 then (some ((-1))) else (some (9))) else (some (8))) else (some (7))) else (some (6))) else (some (5))) else (some (4))) else (some (3))) else (some (2))) else (some (1))) else (some (0))
def w_X2_wordHere (cyI cyZ cyW : ClassId) (a_this : Nat) (a_this_text : Nat) (a_this_draft : Nat) (v_this_clauses : Int32) (v_this_start : Int32) (v_this_end : Int32) (a_this_text_letters : Nat) (v_this_text_length : Int32) (v_this_text_letters : Nat → Int32) : va_W := [(a_this, .inr (2, [.ref a_this_text, .ref a_this_draft, .int v_this_clauses, .int v_this_start, .int v_this_end])), (a_this_text, .inr (0, [.ref a_this_text_letters, .int v_this_text_length])), (a_this_text_letters, .inl (cyI, 160, .inl v_this_text_letters))]
set_option maxHeartbeats 4000000 in
set_option maxRecDepth 100000 in
theorem c_X2_wordHere (l : Launch) (D : va_G) (cyI cyZ cyW : ClassId) (a_this : Nat) (a_this_text : Nat) (a_this_draft : Nat) (v_this_clauses : Int32) (v_this_start : Int32) (v_this_end : Int32) (a_this_text_letters : Nat) (v_this_text_length : Int32) (v_this_text_letters : Nat → Int32) (res : Int32) (hf : f_X2_wordHere v_this_start v_this_end v_this_text_length v_this_text_letters = some res) : ∀ sz, Met l yX2_wordHere wsX2_wordHere { frames := 5, cells := 0, slots := 0, locals := 122 } (PCe D (tyG cyI cyZ cyW) OU [.ref a_this] (w_X2_wordHere cyI cyZ cyW a_this a_this_text a_this_draft v_this_clauses v_this_start v_this_end a_this_text_letters v_this_text_length v_this_text_letters) sz) (QI D (tyG cyI cyZ cyW) (w_X2_wordHere cyI cyZ cyW a_this a_this_text a_this_draft v_this_clauses v_this_start v_this_end a_this_text_letters v_this_text_length v_this_text_letters) sz res (w_X2_wordHere cyI cyZ cyW a_this a_this_text a_this_draft v_this_clauses v_this_start v_this_end a_this_text_letters v_this_text_length v_this_text_letters)) 0 0 (va_A (w_X2_wordHere cyI cyZ cyW a_this a_this_text a_this_draft v_this_clauses v_this_start v_this_end a_this_text_letters v_this_text_length v_this_text_letters) sz) := by
  intro sz
  refine met_ofE (cc := cX2_wordHere) (maxL := 1) (ret := (some .int)) (lv0 := [(0, .ref a_this)]) (by decide) rfl ⟨(Nat.le_of_ble_eq_true rfl), rfl⟩ ?_
  intro p e s m below meth c C hE hr hlk hnm hsz
  subst hsz
  obtain ⟨adK, ⟨q0s, q0r⟩, ⟨q1s, q1r⟩, ⟨q2s, q2r⟩, ⟨q3s, q3r⟩, ⟨q4s, q4r⟩, ⟨q5s, q5r⟩, ⟨q6s, q6r⟩, ⟨q7s, q7r⟩, ⟨q8s, q8r⟩, ⟨q9s, q9r⟩⟩ := hE
  have C : CX p s m _ c 1 cX2_wordHere RX2 wsX2_wordHere D (tyG cyI cyZ cyW) _ := C
  refine r_aload_n C dX2_wordHere_0 rfl 0 rfl ?_
  refine r_ldcS C q0r dX2_wordHere_1 ?_
  obtain ⟨y1, hy2, hf⟩ := bd_some hf
  refine r_roVE_i (As := [.ref (adK 0)]) (rest := []) C (OP_STR 4 (bS [98, 111, 110, 101]) (adK 0)) q0s (c_X2_isWord l D cyI cyZ cyW 4 (bS [98, 111, 110, 101]) (by decide) a_this a_this_text a_this_draft v_this_clauses v_this_start v_this_end a_this_text_letters v_this_text_length v_this_text_letters (adK 0) y1 hy2) gX2_wordHere_X2_isWord rfl hyV_X2_isWord ⟨rfl, rfl, (Nat.le_of_ble_eq_true rfl), (Nat.le_of_ble_eq_true rfl)⟩ rfl 0 rfl rfl [0, 1, 2] rfl rfl rfl (Nat.le_of_ble_eq_true rfl) ⟨Nat.zero_le _, Nat.zero_le _⟩ dX2_wordHere_3 ?_
  refine r_if_eq C 11 dX2_wordHere_6 (by decide) hf (fun hf => ?_) (fun hf => ?_)
  · refine r_aload_n C dX2_wordHere_11 rfl 0 rfl ?_
    refine r_ldcS C q1r dX2_wordHere_12 ?_
    obtain ⟨y3, hy4, hf⟩ := bd_some hf
    refine r_roVE_i (As := [.ref (adK 1)]) (rest := []) C (OP_STR 5 (bS [98, 114, 97, 115, 115]) (adK 1)) q1s (c_X2_isWord l D cyI cyZ cyW 5 (bS [98, 114, 97, 115, 115]) (by decide) a_this a_this_text a_this_draft v_this_clauses v_this_start v_this_end a_this_text_letters v_this_text_length v_this_text_letters (adK 1) y3 hy4) gX2_wordHere_X2_isWord rfl hyV_X2_isWord ⟨rfl, rfl, (Nat.le_of_ble_eq_true rfl), (Nat.le_of_ble_eq_true rfl)⟩ rfl 0 rfl rfl [0, 1, 2] rfl rfl rfl (Nat.le_of_ble_eq_true rfl) ⟨Nat.zero_le _, Nat.zero_le _⟩ dX2_wordHere_14 ?_
    refine r_if_eq C 22 dX2_wordHere_17 (by decide) hf (fun hf => ?_) (fun hf => ?_)
    · refine r_aload_n C dX2_wordHere_22 rfl 0 rfl ?_
      refine r_ldcS C q2r dX2_wordHere_23 ?_
      obtain ⟨y5, hy6, hf⟩ := bd_some hf
      refine r_roVE_i (As := [.ref (adK 2)]) (rest := []) C (OP_STR 5 (bS [112, 101, 97, 114, 108]) (adK 2)) q2s (c_X2_isWord l D cyI cyZ cyW 5 (bS [112, 101, 97, 114, 108]) (by decide) a_this a_this_text a_this_draft v_this_clauses v_this_start v_this_end a_this_text_letters v_this_text_length v_this_text_letters (adK 2) y5 hy6) gX2_wordHere_X2_isWord rfl hyV_X2_isWord ⟨rfl, rfl, (Nat.le_of_ble_eq_true rfl), (Nat.le_of_ble_eq_true rfl)⟩ rfl 0 rfl rfl [0, 1, 2] rfl rfl rfl (Nat.le_of_ble_eq_true rfl) ⟨Nat.zero_le _, Nat.zero_le _⟩ dX2_wordHere_25 ?_
      refine r_if_eq C 33 dX2_wordHere_28 (by decide) hf (fun hf => ?_) (fun hf => ?_)
      · refine r_aload_n C dX2_wordHere_33 rfl 0 rfl ?_
        refine r_ldcS C q3r dX2_wordHere_34 ?_
        obtain ⟨y7, hy8, hf⟩ := bd_some hf
        refine r_roVE_i (As := [.ref (adK 3)]) (rest := []) C (OP_STR 5 (bS [108, 111, 111, 115, 101]) (adK 3)) q3s (c_X2_isWord l D cyI cyZ cyW 5 (bS [108, 111, 111, 115, 101]) (by decide) a_this a_this_text a_this_draft v_this_clauses v_this_start v_this_end a_this_text_letters v_this_text_length v_this_text_letters (adK 3) y7 hy8) gX2_wordHere_X2_isWord rfl hyV_X2_isWord ⟨rfl, rfl, (Nat.le_of_ble_eq_true rfl), (Nat.le_of_ble_eq_true rfl)⟩ rfl 0 rfl rfl [0, 1, 2] rfl rfl rfl (Nat.le_of_ble_eq_true rfl) ⟨Nat.zero_le _, Nat.zero_le _⟩ dX2_wordHere_36 ?_
        refine r_if_eq C 44 dX2_wordHere_39 (by decide) hf (fun hf => ?_) (fun hf => ?_)
        · refine r_aload_n C dX2_wordHere_44 rfl 0 rfl ?_
          refine r_ldcS C q4r dX2_wordHere_45 ?_
          obtain ⟨y9, hy10, hf⟩ := bd_some hf
          refine r_roVE_i (As := [.ref (adK 4)]) (rest := []) C (OP_STR 6 (bS [102, 97, 118, 111, 117, 114]) (adK 4)) q4s (c_X2_isWord l D cyI cyZ cyW 6 (bS [102, 97, 118, 111, 117, 114]) (by decide) a_this a_this_text a_this_draft v_this_clauses v_this_start v_this_end a_this_text_letters v_this_text_length v_this_text_letters (adK 4) y9 hy10) gX2_wordHere_X2_isWord rfl hyV_X2_isWord ⟨rfl, rfl, (Nat.le_of_ble_eq_true rfl), (Nat.le_of_ble_eq_true rfl)⟩ rfl 0 rfl rfl [0, 1, 2] rfl rfl rfl (Nat.le_of_ble_eq_true rfl) ⟨Nat.zero_le _, Nat.zero_le _⟩ dX2_wordHere_47 ?_
          refine r_if_eq C 55 dX2_wordHere_50 (by decide) hf (fun hf => ?_) (fun hf => ?_)
          · refine r_aload_n C dX2_wordHere_55 rfl 0 rfl ?_
            refine r_ldcS C q5r dX2_wordHere_56 ?_
            obtain ⟨y11, hy12, hf⟩ := bd_some hf
            refine r_roVE_i (As := [.ref (adK 5)]) (rest := []) C (OP_STR 4 (bS [102, 101, 117, 100]) (adK 5)) q5s (c_X2_isWord l D cyI cyZ cyW 4 (bS [102, 101, 117, 100]) (by decide) a_this a_this_text a_this_draft v_this_clauses v_this_start v_this_end a_this_text_letters v_this_text_length v_this_text_letters (adK 5) y11 hy12) gX2_wordHere_X2_isWord rfl hyV_X2_isWord ⟨rfl, rfl, (Nat.le_of_ble_eq_true rfl), (Nat.le_of_ble_eq_true rfl)⟩ rfl 0 rfl rfl [0, 1, 2] rfl rfl rfl (Nat.le_of_ble_eq_true rfl) ⟨Nat.zero_le _, Nat.zero_le _⟩ dX2_wordHere_58 ?_
            refine r_if_eq C 66 dX2_wordHere_61 (by decide) hf (fun hf => ?_) (fun hf => ?_)
            · refine r_aload_n C dX2_wordHere_66 rfl 0 rfl ?_
              refine r_ldcS C q6r dX2_wordHere_67 ?_
              obtain ⟨y13, hy14, hf⟩ := bd_some hf
              refine r_roVE_i (As := [.ref (adK 6)]) (rest := []) C (OP_STR 5 (bS [113, 117, 111, 116, 97]) (adK 6)) q6s (c_X2_isWord l D cyI cyZ cyW 5 (bS [113, 117, 111, 116, 97]) (by decide) a_this a_this_text a_this_draft v_this_clauses v_this_start v_this_end a_this_text_letters v_this_text_length v_this_text_letters (adK 6) y13 hy14) gX2_wordHere_X2_isWord rfl hyV_X2_isWord ⟨rfl, rfl, (Nat.le_of_ble_eq_true rfl), (Nat.le_of_ble_eq_true rfl)⟩ rfl 0 rfl rfl [0, 1, 2] rfl rfl rfl (Nat.le_of_ble_eq_true rfl) ⟨Nat.zero_le _, Nat.zero_le _⟩ dX2_wordHere_69 ?_
              refine r_if_eq C 78 dX2_wordHere_72 (by decide) hf (fun hf => ?_) (fun hf => ?_)
              · refine r_aload_n C dX2_wordHere_78 rfl 0 rfl ?_
                refine r_ldcS C q7r dX2_wordHere_79 ?_
                obtain ⟨y15, hy16, hf⟩ := bd_some hf
                refine r_roVE_i (As := [.ref (adK 7)]) (rest := []) C (OP_STR 4 (bS [99, 111, 108, 100]) (adK 7)) q7s (c_X2_isWord l D cyI cyZ cyW 4 (bS [99, 111, 108, 100]) (by decide) a_this a_this_text a_this_draft v_this_clauses v_this_start v_this_end a_this_text_letters v_this_text_length v_this_text_letters (adK 7) y15 hy16) gX2_wordHere_X2_isWord rfl hyV_X2_isWord ⟨rfl, rfl, (Nat.le_of_ble_eq_true rfl), (Nat.le_of_ble_eq_true rfl)⟩ rfl 0 rfl rfl [0, 1, 2] rfl rfl rfl (Nat.le_of_ble_eq_true rfl) ⟨Nat.zero_le _, Nat.zero_le _⟩ dX2_wordHere_81 ?_
                refine r_if_eq C 90 dX2_wordHere_84 (by decide) hf (fun hf => ?_) (fun hf => ?_)
                · refine r_aload_n C dX2_wordHere_90 rfl 0 rfl ?_
                  refine r_ldcS C q8r dX2_wordHere_91 ?_
                  obtain ⟨y17, hy18, hf⟩ := bd_some hf
                  refine r_roVE_i (As := [.ref (adK 8)]) (rest := []) C (OP_STR 4 (bS [109, 105, 108, 100]) (adK 8)) q8s (c_X2_isWord l D cyI cyZ cyW 4 (bS [109, 105, 108, 100]) (by decide) a_this a_this_text a_this_draft v_this_clauses v_this_start v_this_end a_this_text_letters v_this_text_length v_this_text_letters (adK 8) y17 hy18) gX2_wordHere_X2_isWord rfl hyV_X2_isWord ⟨rfl, rfl, (Nat.le_of_ble_eq_true rfl), (Nat.le_of_ble_eq_true rfl)⟩ rfl 0 rfl rfl [0, 1, 2] rfl rfl rfl (Nat.le_of_ble_eq_true rfl) ⟨Nat.zero_le _, Nat.zero_le _⟩ dX2_wordHere_93 ?_
                  refine r_if_eq C 102 dX2_wordHere_96 (by decide) hf (fun hf => ?_) (fun hf => ?_)
                  · refine r_aload_n C dX2_wordHere_102 rfl 0 rfl ?_
                    refine r_ldcS C q9r dX2_wordHere_103 ?_
                    obtain ⟨y19, hy20, hf⟩ := bd_some hf
                    refine r_roVE_i (As := [.ref (adK 9)]) (rest := []) C (OP_STR 4 (bS [99, 111, 97, 116]) (adK 9)) q9s (c_X2_isWord l D cyI cyZ cyW 4 (bS [99, 111, 97, 116]) (by decide) a_this a_this_text a_this_draft v_this_clauses v_this_start v_this_end a_this_text_letters v_this_text_length v_this_text_letters (adK 9) y19 hy20) gX2_wordHere_X2_isWord rfl hyV_X2_isWord ⟨rfl, rfl, (Nat.le_of_ble_eq_true rfl), (Nat.le_of_ble_eq_true rfl)⟩ rfl 0 rfl rfl [0, 1, 2] rfl rfl rfl (Nat.le_of_ble_eq_true rfl) ⟨Nat.zero_le _, Nat.zero_le _⟩ dX2_wordHere_105 ?_
                    refine r_if_eq C 116 dX2_wordHere_108 (by decide) hf (fun hf => ?_) (fun hf => ?_)
                    · refine r_iconst C (-1) dX2_wordHere_116 (by decide) ?_
                      rw [← Option.some.inj hf]
                      exact r_iret C hr hlk dX2_wordHere_117
                    · refine r_bipush C 9 dX2_wordHere_111 (by decide) ?_
                      refine r_goto C 117 dX2_wordHere_113 (by decide) ?_
                      rw [← Option.some.inj hf]
                      exact r_iret C hr hlk dX2_wordHere_117
                  · refine r_bipush C 8 dX2_wordHere_99 (by decide) ?_
                    rw [← Option.some.inj hf]
                    exact r_iret C hr hlk dX2_wordHere_101
                · refine r_bipush C 7 dX2_wordHere_87 (by decide) ?_
                  rw [← Option.some.inj hf]
                  exact r_iret C hr hlk dX2_wordHere_89
              · refine r_bipush C 6 dX2_wordHere_75 (by decide) ?_
                rw [← Option.some.inj hf]
                exact r_iret C hr hlk dX2_wordHere_77
            · refine r_iconst C 5 dX2_wordHere_64 (by decide) ?_
              rw [← Option.some.inj hf]
              exact r_iret C hr hlk dX2_wordHere_65
          · refine r_iconst C 4 dX2_wordHere_53 (by decide) ?_
            rw [← Option.some.inj hf]
            exact r_iret C hr hlk dX2_wordHere_54
        · refine r_iconst C 3 dX2_wordHere_42 (by decide) ?_
          rw [← Option.some.inj hf]
          exact r_iret C hr hlk dX2_wordHere_43
      · refine r_iconst C 2 dX2_wordHere_31 (by decide) ?_
        rw [← Option.some.inj hf]
        exact r_iret C hr hlk dX2_wordHere_32
    · refine r_iconst C 1 dX2_wordHere_20 (by decide) ?_
      rw [← Option.some.inj hf]
      exact r_iret C hr hlk dX2_wordHere_21
  · refine r_iconst C 0 dX2_wordHere_9 (by decide) ?_
    rw [← Option.some.inj hf]
    exact r_iret C hr hlk dX2_wordHere_10

theorem lk_X2_readQuota_1 : Cond.fieldLink RX2 21 "ParishCoat$Reader" "draft" "LParishCoat$Told;" ∈ wsX2_readQuota := List.mem_of_getElem? (i := 1) rfl
theorem lk_X2_readQuota_2 : Cond.fieldLink RX2 137 "ParishCoat$Told" "quota" "I" ∈ wsX2_readQuota := List.mem_of_getElem? (i := 2) rfl
theorem in_X2_readQuota_X2 : ∀ w ∈ u_ws RX2 TX2 5, w ∈ wsX2_readQuota := fun _ h => List.mem_cons_of_mem _ (List.mem_append_left _ (List.mem_append_left _ (List.mem_append_right _ h)))
theorem in_X2_readQuota_X5 : ∀ w ∈ u_ws RX5 TX5 8, w ∈ wsX2_readQuota := fun _ h => List.mem_cons_of_mem _ (List.mem_append_left _ (List.mem_append_right _ h))
theorem hyV_X2_numberHere : yX2_numberHere.cls = RX2 ∧ yX2_numberHere.cls ≠ "java/lang/invoke/MethodHandle" ∧ yX2_numberHere.cls ≠ "java/lang/invoke/VarHandle" ∧ (parseMethodDescriptor yX2_numberHere.desc).map (fun d => d.parameters.length) = some 2 := by decide +kernel
theorem hyS_X2_numberHere : yX2_numberHere.cls ≠ "java/lang/invoke/MethodHandle" ∧ yX2_numberHere.cls ≠ "java/lang/invoke/VarHandle" ∧ (parseMethodDescriptor yX2_numberHere.desc).map (fun d => d.parameters.length) = some 2 := by decide +kernel
theorem hyV_X2_next : yX2_next.cls = RX2 ∧ yX2_next.cls ≠ "java/lang/invoke/MethodHandle" ∧ yX2_next.cls ≠ "java/lang/invoke/VarHandle" ∧ (parseMethodDescriptor yX2_next.desc).map (fun d => d.parameters.length) = some 0 := by decide +kernel
theorem hyS_X2_next : yX2_next.cls ≠ "java/lang/invoke/MethodHandle" ∧ yX2_next.cls ≠ "java/lang/invoke/VarHandle" ∧ (parseMethodDescriptor yX2_next.desc).map (fun d => d.parameters.length) = some 0 := by decide +kernel
def f_X2_readQuota (v_this_start : Int32) (v_this_end : Int32) (v_this_text_length : Int32) (v_this_text_letters : Nat → Int32) (v_this_draft_quota : Int32) : Option (Int32 × Int32 × Int32 × Int32) := (f_X2_numberHere v_this_start v_this_end v_this_text_length v_this_text_letters 1 20).bind fun y1 => if y1 = (-1) then (some (0, v_this_start, v_this_end, v_this_draft_quota)) else (bd2 (f_X2_next v_this_start v_this_end v_this_text_length v_this_text_letters) (fun y3_0 y3_1 => some (1, y3_0, y3_1, y1)))
def w_X2_readQuota (cyI cyZ cyW : ClassId) (a_this : Nat) (a_this_text : Nat) (a_this_draft : Nat) (v_this_clauses : Int32) (v_this_start : Int32) (v_this_end : Int32) (a_this_text_letters : Nat) (v_this_text_length : Int32) (v_this_text_letters : Nat → Int32) (v_this_draft_families : Int32) (v_this_draft_quota : Int32) (v_this_draft_coldCount : Int32) (a_this_draft_kinds : Nat) (a_this_draft_warmths : Nat) (a_this_draft_prices : Nat) (a_this_draft_favourers : Nat) (a_this_draft_colds : Nat) : va_W := [(a_this, .inr (2, [.ref a_this_text, .ref a_this_draft, .int v_this_clauses, .int v_this_start, .int v_this_end])), (a_this_text, .inr (0, [.ref a_this_text_letters, .int v_this_text_length])), (a_this_text_letters, .inl (cyI, 160, .inl v_this_text_letters)), (a_this_draft, .inr (5, [.int v_this_draft_families, .int v_this_draft_quota, .int v_this_draft_coldCount, .ref a_this_draft_kinds, .ref a_this_draft_warmths, .ref a_this_draft_prices, .ref a_this_draft_favourers, .ref a_this_draft_colds]))]
set_option maxHeartbeats 4000000 in
set_option maxRecDepth 100000 in
theorem c_X2_readQuota (l : Launch) (D : va_G) (cyI cyZ cyW : ClassId) (a_this : Nat) (a_this_text : Nat) (a_this_draft : Nat) (v_this_clauses : Int32) (v_this_start : Int32) (v_this_end : Int32) (a_this_text_letters : Nat) (v_this_text_length : Int32) (v_this_text_letters : Nat → Int32) (v_this_draft_families : Int32) (v_this_draft_quota : Int32) (v_this_draft_coldCount : Int32) (a_this_draft_kinds : Nat) (a_this_draft_warmths : Nat) (a_this_draft_prices : Nat) (a_this_draft_favourers : Nat) (a_this_draft_colds : Nat) (res : Int32 × Int32 × Int32 × Int32) (hf : f_X2_readQuota v_this_start v_this_end v_this_text_length v_this_text_letters v_this_draft_quota = some res) : ∀ sz, Met l yX2_readQuota wsX2_readQuota { frames := 3, cells := 0, slots := 0, locals := 66 } (PCx D (tyG cyI cyZ cyW) [.ref a_this] (w_X2_readQuota cyI cyZ cyW a_this a_this_text a_this_draft v_this_clauses v_this_start v_this_end a_this_text_letters v_this_text_length v_this_text_letters v_this_draft_families v_this_draft_quota v_this_draft_coldCount a_this_draft_kinds a_this_draft_warmths a_this_draft_prices a_this_draft_favourers a_this_draft_colds) sz) (QI D (tyG cyI cyZ cyW) (w_X2_readQuota cyI cyZ cyW a_this a_this_text a_this_draft v_this_clauses v_this_start v_this_end a_this_text_letters v_this_text_length v_this_text_letters v_this_draft_families v_this_draft_quota v_this_draft_coldCount a_this_draft_kinds a_this_draft_warmths a_this_draft_prices a_this_draft_favourers a_this_draft_colds) sz res.1 (w_X2_readQuota cyI cyZ cyW a_this a_this_text a_this_draft v_this_clauses res.2.1 res.2.2.1 a_this_text_letters v_this_text_length v_this_text_letters v_this_draft_families res.2.2.2 v_this_draft_coldCount a_this_draft_kinds a_this_draft_warmths a_this_draft_prices a_this_draft_favourers a_this_draft_colds)) 0 0 (va_A (w_X2_readQuota cyI cyZ cyW a_this a_this_text a_this_draft v_this_clauses v_this_start v_this_end a_this_text_letters v_this_text_length v_this_text_letters v_this_draft_families v_this_draft_quota v_this_draft_coldCount a_this_draft_kinds a_this_draft_warmths a_this_draft_prices a_this_draft_favourers a_this_draft_colds) sz) := by
  intro sz
  refine met_of (cc := cX2_readQuota) (maxL := 2) (ret := (some .boolean)) (lv0 := [(0, .ref a_this)]) (by decide) rfl ⟨(Nat.le_of_ble_eq_true rfl), rfl⟩ ?_
  intro p e s m below meth c C hr hlk hnm hsz
  subst hsz
  have C : CX p s m _ c 2 cX2_readQuota RX2 wsX2_readQuota D (tyG cyI cyZ cyW) _ := C
  refine r_aload_n C dX2_readQuota_0 rfl 0 rfl ?_
  refine r_iconst C 1 dX2_readQuota_1 (by decide) ?_
  refine r_bipush C 20 dX2_readQuota_2 (by decide) ?_
  obtain ⟨y1, hy2, hf⟩ := bd_some hf
  refine r_roV_i (As := [.int 1, .int 20]) (rest := []) C (c_X2_numberHere l D cyI cyZ cyW a_this a_this_text a_this_draft v_this_clauses v_this_start v_this_end a_this_text_letters v_this_text_length v_this_text_letters 1 20 y1 hy2) gX2_readQuota_X2_numberHere rfl hyV_X2_numberHere ⟨rfl, rfl, (Nat.le_of_ble_eq_true rfl), (Nat.le_of_ble_eq_true rfl)⟩ rfl 0 rfl rfl [0, 1, 2] rfl rfl rfl (Nat.le_of_ble_eq_true rfl) ⟨Nat.zero_le _, Nat.zero_le _⟩ dX2_readQuota_4 ?_
  refine r_istore_n (lv' := [(1, .int y1), (0, .ref a_this)]) C dX2_readQuota_7 rfl (by decide) rfl ?_
  refine r_iload_n C dX2_readQuota_8 rfl 0 rfl ?_
  refine r_iconst C (-1) dX2_readQuota_9 (by decide) ?_
  refine r_icmp_ne C 15 dX2_readQuota_10 (by decide) hf (fun hf => ?_) (fun hf => ?_)
  · refine r_aload_n C dX2_readQuota_15 rfl 1 rfl ?_
    obtain ⟨y3_0, y3_1, hy4, hf⟩ := bd2_some hf
    refine r_callV_v (As := []) (rest := []) (ws' := (w_X2_readQuota cyI cyZ cyW a_this a_this_text a_this_draft v_this_clauses y3_0 y3_1 a_this_text_letters v_this_text_length v_this_text_letters v_this_draft_families v_this_draft_quota v_this_draft_coldCount a_this_draft_kinds a_this_draft_warmths a_this_draft_prices a_this_draft_favourers a_this_draft_colds)) C (c_X2_next l D cyI cyZ cyW a_this a_this_text a_this_draft v_this_clauses v_this_start v_this_end a_this_text_letters v_this_text_length v_this_text_letters (y3_0, y3_1) hy4) gX2_readQuota_X2_next rfl hyV_X2_next ⟨rfl, rfl, (Nat.le_of_ble_eq_true rfl), (Nat.le_of_ble_eq_true rfl)⟩ rfl 0 rfl rfl [0, 1, 2] rfl rfl rfl rfl rfl (Nat.le_of_ble_eq_true rfl) ⟨Nat.zero_le _, Nat.zero_le _⟩ dX2_readQuota_16 ?_
    refine r_aload_n C dX2_readQuota_19 rfl 1 rfl ?_
    refine r_get C in_X2_readQuota_X2 0 rfl rfl 1 (by decide) lk_X2_readQuota_1 rfl rfl dX2_readQuota_20 ?_
    refine r_iload_n C dX2_readQuota_23 rfl 0 rfl ?_
    refine r_put (ws' := (w_X2_readQuota cyI cyZ cyW a_this a_this_text a_this_draft v_this_clauses y3_0 y3_1 a_this_text_letters v_this_text_length v_this_text_letters v_this_draft_families y1 v_this_draft_coldCount a_this_draft_kinds a_this_draft_warmths a_this_draft_prices a_this_draft_favourers a_this_draft_colds)) C in_X2_readQuota_X5 tyX5 tyX5_ok nmX5 3 rfl rfl 1 (by decide) lk_X2_readQuota_2 rfl rfl rfl rfl (Nat.le_of_ble_eq_true rfl) rfl dX2_readQuota_24 ?_
    refine r_iconst C 1 dX2_readQuota_27 (by decide) ?_
    rw [← Option.some.inj hf]
    exact r_zret (r := 1) C hr hlk rfl dX2_readQuota_28
  · refine r_iconst C 0 dX2_readQuota_13 (by decide) ?_
    rw [← Option.some.inj hf]
    exact r_zret (r := 0) C hr hlk rfl dX2_readQuota_14

theorem lk_X2_readCold_1 : Cond.fieldLink RX2 21 "ParishCoat$Reader" "draft" "LParishCoat$Told;" ∈ wsX2_readCold := List.mem_of_getElem? (i := 1) rfl
theorem in_X2_readCold_X2 : ∀ w ∈ u_ws RX2 TX2 5, w ∈ wsX2_readCold := fun _ h => List.mem_cons_of_mem _ (List.mem_append_left _ (List.mem_append_left _ (List.mem_append_right _ h)))
theorem hyV_X5_addCold : yX5_addCold.cls = RX5 ∧ yX5_addCold.cls ≠ "java/lang/invoke/MethodHandle" ∧ yX5_addCold.cls ≠ "java/lang/invoke/VarHandle" ∧ (parseMethodDescriptor yX5_addCold.desc).map (fun d => d.parameters.length) = some 1 := by decide +kernel
theorem hyS_X5_addCold : yX5_addCold.cls ≠ "java/lang/invoke/MethodHandle" ∧ yX5_addCold.cls ≠ "java/lang/invoke/VarHandle" ∧ (parseMethodDescriptor yX5_addCold.desc).map (fun d => d.parameters.length) = some 1 := by decide +kernel
def f_X2_readCold (v_this_start : Int32) (v_this_end : Int32) (v_this_text_length : Int32) (v_this_text_letters : Nat → Int32) (v_this_draft_coldCount : Int32) (v_this_draft_colds : Nat → Int32) : Option (Int32 × Int32 × Int32 × Int32 × (Nat → Int32)) := (f_X2_numberHere v_this_start v_this_end v_this_text_length v_this_text_letters 0 40).bind fun y1 => if y1 = (-1) then (some (0, v_this_start, v_this_end, v_this_draft_coldCount, v_this_draft_colds)) else (bd2 (f_X2_next v_this_start v_this_end v_this_text_length v_this_text_letters) (fun y3_0 y3_1 => bd2 (f_X5_addCold v_this_draft_coldCount v_this_draft_colds y1) (fun y5_0 y5_1 => some (1, y3_0, y3_1, y5_0, y5_1))))
def w_X2_readCold (cyI cyZ cyW : ClassId) (a_this : Nat) (a_this_text : Nat) (a_this_draft : Nat) (v_this_clauses : Int32) (v_this_start : Int32) (v_this_end : Int32) (a_this_text_letters : Nat) (v_this_text_length : Int32) (v_this_text_letters : Nat → Int32) (v_this_draft_families : Int32) (v_this_draft_quota : Int32) (v_this_draft_coldCount : Int32) (a_this_draft_kinds : Nat) (a_this_draft_warmths : Nat) (a_this_draft_prices : Nat) (a_this_draft_favourers : Nat) (a_this_draft_colds : Nat) (v_this_draft_colds : Nat → Int32) : va_W := [(a_this, .inr (2, [.ref a_this_text, .ref a_this_draft, .int v_this_clauses, .int v_this_start, .int v_this_end])), (a_this_text, .inr (0, [.ref a_this_text_letters, .int v_this_text_length])), (a_this_text_letters, .inl (cyI, 160, .inl v_this_text_letters)), (a_this_draft, .inr (5, [.int v_this_draft_families, .int v_this_draft_quota, .int v_this_draft_coldCount, .ref a_this_draft_kinds, .ref a_this_draft_warmths, .ref a_this_draft_prices, .ref a_this_draft_favourers, .ref a_this_draft_colds])), (a_this_draft_colds, .inl (cyI, 6, .inl v_this_draft_colds))]
set_option maxHeartbeats 4000000 in
set_option maxRecDepth 100000 in
theorem c_X2_readCold (l : Launch) (D : va_G) (cyI cyZ cyW : ClassId) (a_this : Nat) (a_this_text : Nat) (a_this_draft : Nat) (v_this_clauses : Int32) (v_this_start : Int32) (v_this_end : Int32) (a_this_text_letters : Nat) (v_this_text_length : Int32) (v_this_text_letters : Nat → Int32) (v_this_draft_families : Int32) (v_this_draft_quota : Int32) (v_this_draft_coldCount : Int32) (a_this_draft_kinds : Nat) (a_this_draft_warmths : Nat) (a_this_draft_prices : Nat) (a_this_draft_favourers : Nat) (a_this_draft_colds : Nat) (v_this_draft_colds : Nat → Int32) (res : Int32 × Int32 × Int32 × Int32 × (Nat → Int32)) (hf : f_X2_readCold v_this_start v_this_end v_this_text_length v_this_text_letters v_this_draft_coldCount v_this_draft_colds = some res) : ∀ sz, Met l yX2_readCold wsX2_readCold { frames := 3, cells := 0, slots := 0, locals := 66 } (PCx D (tyG cyI cyZ cyW) [.ref a_this] (w_X2_readCold cyI cyZ cyW a_this a_this_text a_this_draft v_this_clauses v_this_start v_this_end a_this_text_letters v_this_text_length v_this_text_letters v_this_draft_families v_this_draft_quota v_this_draft_coldCount a_this_draft_kinds a_this_draft_warmths a_this_draft_prices a_this_draft_favourers a_this_draft_colds v_this_draft_colds) sz) (QI D (tyG cyI cyZ cyW) (w_X2_readCold cyI cyZ cyW a_this a_this_text a_this_draft v_this_clauses v_this_start v_this_end a_this_text_letters v_this_text_length v_this_text_letters v_this_draft_families v_this_draft_quota v_this_draft_coldCount a_this_draft_kinds a_this_draft_warmths a_this_draft_prices a_this_draft_favourers a_this_draft_colds v_this_draft_colds) sz res.1 (w_X2_readCold cyI cyZ cyW a_this a_this_text a_this_draft v_this_clauses res.2.1 res.2.2.1 a_this_text_letters v_this_text_length v_this_text_letters v_this_draft_families v_this_draft_quota res.2.2.2.1 a_this_draft_kinds a_this_draft_warmths a_this_draft_prices a_this_draft_favourers a_this_draft_colds res.2.2.2.2)) 0 0 (va_A (w_X2_readCold cyI cyZ cyW a_this a_this_text a_this_draft v_this_clauses v_this_start v_this_end a_this_text_letters v_this_text_length v_this_text_letters v_this_draft_families v_this_draft_quota v_this_draft_coldCount a_this_draft_kinds a_this_draft_warmths a_this_draft_prices a_this_draft_favourers a_this_draft_colds v_this_draft_colds) sz) := by
  intro sz
  refine met_of (cc := cX2_readCold) (maxL := 2) (ret := (some .boolean)) (lv0 := [(0, .ref a_this)]) (by decide) rfl ⟨(Nat.le_of_ble_eq_true rfl), rfl⟩ ?_
  intro p e s m below meth c C hr hlk hnm hsz
  subst hsz
  have C : CX p s m _ c 2 cX2_readCold RX2 wsX2_readCold D (tyG cyI cyZ cyW) _ := C
  refine r_aload_n C dX2_readCold_0 rfl 0 rfl ?_
  refine r_iconst C 0 dX2_readCold_1 (by decide) ?_
  refine r_bipush C 40 dX2_readCold_2 (by decide) ?_
  obtain ⟨y1, hy2, hf⟩ := bd_some hf
  refine r_roV_i (As := [.int 0, .int 40]) (rest := []) C (c_X2_numberHere l D cyI cyZ cyW a_this a_this_text a_this_draft v_this_clauses v_this_start v_this_end a_this_text_letters v_this_text_length v_this_text_letters 0 40 y1 hy2) gX2_readCold_X2_numberHere rfl hyV_X2_numberHere ⟨rfl, rfl, (Nat.le_of_ble_eq_true rfl), (Nat.le_of_ble_eq_true rfl)⟩ rfl 0 rfl rfl [0, 1, 2] rfl rfl rfl (Nat.le_of_ble_eq_true rfl) ⟨Nat.zero_le _, Nat.zero_le _⟩ dX2_readCold_4 ?_
  refine r_istore_n (lv' := [(1, .int y1), (0, .ref a_this)]) C dX2_readCold_7 rfl (by decide) rfl ?_
  refine r_iload_n C dX2_readCold_8 rfl 0 rfl ?_
  refine r_iconst C (-1) dX2_readCold_9 (by decide) ?_
  refine r_icmp_ne C 15 dX2_readCold_10 (by decide) hf (fun hf => ?_) (fun hf => ?_)
  · refine r_aload_n C dX2_readCold_15 rfl 1 rfl ?_
    obtain ⟨y3_0, y3_1, hy4, hf⟩ := bd2_some hf
    refine r_callV_v (As := []) (rest := []) (ws' := (w_X2_readCold cyI cyZ cyW a_this a_this_text a_this_draft v_this_clauses y3_0 y3_1 a_this_text_letters v_this_text_length v_this_text_letters v_this_draft_families v_this_draft_quota v_this_draft_coldCount a_this_draft_kinds a_this_draft_warmths a_this_draft_prices a_this_draft_favourers a_this_draft_colds v_this_draft_colds)) C (c_X2_next l D cyI cyZ cyW a_this a_this_text a_this_draft v_this_clauses v_this_start v_this_end a_this_text_letters v_this_text_length v_this_text_letters (y3_0, y3_1) hy4) gX2_readCold_X2_next rfl hyV_X2_next ⟨rfl, rfl, (Nat.le_of_ble_eq_true rfl), (Nat.le_of_ble_eq_true rfl)⟩ rfl 0 rfl rfl [0, 1, 2] rfl rfl rfl rfl rfl (Nat.le_of_ble_eq_true rfl) ⟨Nat.zero_le _, Nat.zero_le _⟩ dX2_readCold_16 ?_
    refine r_aload_n C dX2_readCold_19 rfl 1 rfl ?_
    refine r_get C in_X2_readCold_X2 0 rfl rfl 1 (by decide) lk_X2_readCold_1 rfl rfl dX2_readCold_20 ?_
    refine r_iload_n C dX2_readCold_23 rfl 0 rfl ?_
    obtain ⟨y5_0, y5_1, hy6, hf⟩ := bd2_some hf
    refine r_callV_v (As := [.int y1]) (rest := []) (ws' := (w_X2_readCold cyI cyZ cyW a_this a_this_text a_this_draft v_this_clauses y3_0 y3_1 a_this_text_letters v_this_text_length v_this_text_letters v_this_draft_families v_this_draft_quota y5_0 a_this_draft_kinds a_this_draft_warmths a_this_draft_prices a_this_draft_favourers a_this_draft_colds y5_1)) C (c_X5_addCold l D cyI cyZ cyW a_this_draft v_this_draft_families v_this_draft_quota v_this_draft_coldCount a_this_draft_kinds a_this_draft_warmths a_this_draft_prices a_this_draft_favourers a_this_draft_colds v_this_draft_colds y1 (y5_0, y5_1) hy6) gX2_readCold_X5_addCold rfl hyV_X5_addCold ⟨rfl, rfl, (Nat.le_of_ble_eq_true rfl), (Nat.le_of_ble_eq_true rfl)⟩ rfl 3 rfl rfl [3, 4] rfl rfl rfl rfl rfl (Nat.le_of_ble_eq_true rfl) ⟨Nat.zero_le _, Nat.zero_le _⟩ dX2_readCold_24 ?_
    refine r_iconst C 1 dX2_readCold_27 (by decide) ?_
    rw [← Option.some.inj hf]
    exact r_zret (r := 1) C hr hlk rfl dX2_readCold_28
  · refine r_iconst C 0 dX2_readCold_13 (by decide) ?_
    rw [← Option.some.inj hf]
    exact r_zret (r := 0) C hr hlk rfl dX2_readCold_14

theorem lk_X2_readFavour_1 : Cond.fieldLink RX2 21 "ParishCoat$Reader" "draft" "LParishCoat$Told;" ∈ wsX2_readFavour := List.mem_of_getElem? (i := 1) rfl
theorem lk_X2_readFavour_2 : Cond.fieldLink RX2 118 "ParishCoat$Told" "families" "I" ∈ wsX2_readFavour := List.mem_of_getElem? (i := 2) rfl
theorem lk_X2_readFavour_3 : Cond.fieldLink RX2 129 "ParishCoat$Told" "favourers" "[I" ∈ wsX2_readFavour := List.mem_of_getElem? (i := 3) rfl
theorem lk_X2_readFavour_32 : Cond.static yX8_with ∈ wsX2_readFavour := List.mem_of_getElem? (i := 32) rfl
theorem lk_X2_readFavour_33 : Cond.initialized RX8 ∈ wsX2_readFavour := List.mem_of_getElem? (i := 33) rfl
theorem in_X2_readFavour_X2 : ∀ w ∈ u_ws RX2 TX2 5, w ∈ wsX2_readFavour := fun _ h => List.mem_cons_of_mem _ (List.mem_append_left _ (List.mem_append_left _ (List.mem_append_right _ h)))
theorem in_X2_readFavour_X5 : ∀ w ∈ u_ws RX5 TX5 8, w ∈ wsX2_readFavour := fun _ h => List.mem_cons_of_mem _ (List.mem_append_left _ (List.mem_append_right _ h))
def f_X2_readFavour (v_this_start : Int32) (v_this_end : Int32) (v_this_draft_families : Int32) (v_this_text_length : Int32) (v_this_text_letters : Nat → Int32) (v_this_draft_favourers : Nat → Int32) (x1 : Int32) : Option (Int32 × Int32 × Int32 × (Nat → Int32)) := (f_X2_numberHere v_this_start v_this_end v_this_text_length v_this_text_letters 0 (v_this_draft_families - 1)).bind fun y1 => if y1 = (-1) then (some (0, v_this_start, v_this_end, v_this_draft_favourers)) else (bd2 (f_X2_next v_this_start v_this_end v_this_text_length v_this_text_letters) (fun y3_0 y3_1 => (f_X2_numberHere y3_0 y3_1 v_this_text_length v_this_text_letters 0 (v_this_draft_families - 1)).bind fun y5 => if y5 = (-1) then (some (0, y3_0, y3_1, v_this_draft_favourers)) else (if y5 = y1 then (some (0, y3_0, y3_1, v_this_draft_favourers)) else (bd2 (f_X2_next y3_0 y3_1 v_this_text_length v_this_text_letters) (fun y7_0 y7_1 => gd_ y5 7 ((f_X8_with (v_this_draft_favourers (Int32.toNatClampNeg y5)) y1 x1).bind fun y10 => gd_ y5 7 (some (1, y7_0, y7_1, (upd v_this_draft_favourers (Int32.toNatClampNeg y5) y10)))))))))
def w_X2_readFavour (cyI cyZ cyW : ClassId) (a_this : Nat) (a_this_text : Nat) (a_this_draft : Nat) (v_this_clauses : Int32) (v_this_start : Int32) (v_this_end : Int32) (v_this_draft_families : Int32) (v_this_draft_quota : Int32) (v_this_draft_coldCount : Int32) (a_this_draft_kinds : Nat) (a_this_draft_warmths : Nat) (a_this_draft_prices : Nat) (a_this_draft_favourers : Nat) (a_this_draft_colds : Nat) (a_this_text_letters : Nat) (v_this_text_length : Int32) (v_this_text_letters : Nat → Int32) (v_this_draft_favourers : Nat → Int32) : va_W := [(a_this, .inr (2, [.ref a_this_text, .ref a_this_draft, .int v_this_clauses, .int v_this_start, .int v_this_end])), (a_this_draft, .inr (5, [.int v_this_draft_families, .int v_this_draft_quota, .int v_this_draft_coldCount, .ref a_this_draft_kinds, .ref a_this_draft_warmths, .ref a_this_draft_prices, .ref a_this_draft_favourers, .ref a_this_draft_colds])), (a_this_text, .inr (0, [.ref a_this_text_letters, .int v_this_text_length])), (a_this_text_letters, .inl (cyI, 160, .inl v_this_text_letters)), (a_this_draft_favourers, .inl (cyI, 7, .inl v_this_draft_favourers))]
set_option maxHeartbeats 4000000 in
set_option maxRecDepth 100000 in
theorem c_X2_readFavour (l : Launch) (D : va_G) (cyI cyZ cyW : ClassId) (a_this : Nat) (a_this_text : Nat) (a_this_draft : Nat) (v_this_clauses : Int32) (v_this_start : Int32) (v_this_end : Int32) (v_this_draft_families : Int32) (v_this_draft_quota : Int32) (v_this_draft_coldCount : Int32) (a_this_draft_kinds : Nat) (a_this_draft_warmths : Nat) (a_this_draft_prices : Nat) (a_this_draft_favourers : Nat) (a_this_draft_colds : Nat) (a_this_text_letters : Nat) (v_this_text_length : Int32) (v_this_text_letters : Nat → Int32) (v_this_draft_favourers : Nat → Int32) (x1 : Int32) (res : Int32 × Int32 × Int32 × (Nat → Int32)) (hf : f_X2_readFavour v_this_start v_this_end v_this_draft_families v_this_text_length v_this_text_letters v_this_draft_favourers x1 = some res) : ∀ sz, Met l yX2_readFavour wsX2_readFavour { frames := 3, cells := 0, slots := 0, locals := 66 } (PCx D (tyG cyI cyZ cyW) [.ref a_this, .int x1] (w_X2_readFavour cyI cyZ cyW a_this a_this_text a_this_draft v_this_clauses v_this_start v_this_end v_this_draft_families v_this_draft_quota v_this_draft_coldCount a_this_draft_kinds a_this_draft_warmths a_this_draft_prices a_this_draft_favourers a_this_draft_colds a_this_text_letters v_this_text_length v_this_text_letters v_this_draft_favourers) sz) (QI D (tyG cyI cyZ cyW) (w_X2_readFavour cyI cyZ cyW a_this a_this_text a_this_draft v_this_clauses v_this_start v_this_end v_this_draft_families v_this_draft_quota v_this_draft_coldCount a_this_draft_kinds a_this_draft_warmths a_this_draft_prices a_this_draft_favourers a_this_draft_colds a_this_text_letters v_this_text_length v_this_text_letters v_this_draft_favourers) sz res.1 (w_X2_readFavour cyI cyZ cyW a_this a_this_text a_this_draft v_this_clauses res.2.1 res.2.2.1 v_this_draft_families v_this_draft_quota v_this_draft_coldCount a_this_draft_kinds a_this_draft_warmths a_this_draft_prices a_this_draft_favourers a_this_draft_colds a_this_text_letters v_this_text_length v_this_text_letters res.2.2.2)) 0 0 (va_A (w_X2_readFavour cyI cyZ cyW a_this a_this_text a_this_draft v_this_clauses v_this_start v_this_end v_this_draft_families v_this_draft_quota v_this_draft_coldCount a_this_draft_kinds a_this_draft_warmths a_this_draft_prices a_this_draft_favourers a_this_draft_colds a_this_text_letters v_this_text_length v_this_text_letters v_this_draft_favourers) sz) := by
  intro sz
  refine met_of (cc := cX2_readFavour) (maxL := 4) (ret := (some .boolean)) (lv0 := [(0, .ref a_this), (1, .int x1)]) (by decide) rfl ⟨(Nat.le_of_ble_eq_true rfl), rfl⟩ ?_
  intro p e s m below meth c C hr hlk hnm hsz
  subst hsz
  have C : CX p s m _ c 4 cX2_readFavour RX2 wsX2_readFavour D (tyG cyI cyZ cyW) _ := C
  refine r_aload_n C dX2_readFavour_0 rfl 0 rfl ?_
  refine r_iconst C 0 dX2_readFavour_1 (by decide) ?_
  refine r_aload_n C dX2_readFavour_2 rfl 0 rfl ?_
  refine r_get C in_X2_readFavour_X2 0 rfl rfl 1 (by decide) lk_X2_readFavour_1 rfl rfl dX2_readFavour_3 ?_
  refine r_get C in_X2_readFavour_X5 1 rfl rfl 0 (by decide) lk_X2_readFavour_2 rfl rfl dX2_readFavour_6 ?_
  refine r_iconst C 1 dX2_readFavour_9 (by decide) ?_
  refine r_isub C dX2_readFavour_10 ?_
  obtain ⟨y1, hy2, hf⟩ := bd_some hf
  refine r_roV_i (As := [.int 0, .int (v_this_draft_families - 1)]) (rest := []) C (c_X2_numberHere l D cyI cyZ cyW a_this a_this_text a_this_draft v_this_clauses v_this_start v_this_end a_this_text_letters v_this_text_length v_this_text_letters 0 (v_this_draft_families - 1) y1 hy2) gX2_readFavour_X2_numberHere rfl hyV_X2_numberHere ⟨rfl, rfl, (Nat.le_of_ble_eq_true rfl), (Nat.le_of_ble_eq_true rfl)⟩ rfl 0 rfl rfl [0, 2, 3] rfl rfl rfl (Nat.le_of_ble_eq_true rfl) ⟨Nat.zero_le _, Nat.zero_le _⟩ dX2_readFavour_11 ?_
  refine r_istore_n (lv' := [(2, .int y1), (0, .ref a_this), (1, .int x1)]) C dX2_readFavour_14 rfl (by decide) rfl ?_
  refine r_iload_n C dX2_readFavour_15 rfl 0 rfl ?_
  refine r_iconst C (-1) dX2_readFavour_16 (by decide) ?_
  refine r_icmp_ne C 22 dX2_readFavour_17 (by decide) hf (fun hf => ?_) (fun hf => ?_)
  · refine r_aload_n C dX2_readFavour_22 rfl 1 rfl ?_
    obtain ⟨y3_0, y3_1, hy4, hf⟩ := bd2_some hf
    refine r_callV_v (As := []) (rest := []) (ws' := (w_X2_readFavour cyI cyZ cyW a_this a_this_text a_this_draft v_this_clauses y3_0 y3_1 v_this_draft_families v_this_draft_quota v_this_draft_coldCount a_this_draft_kinds a_this_draft_warmths a_this_draft_prices a_this_draft_favourers a_this_draft_colds a_this_text_letters v_this_text_length v_this_text_letters v_this_draft_favourers)) C (c_X2_next l D cyI cyZ cyW a_this a_this_text a_this_draft v_this_clauses v_this_start v_this_end a_this_text_letters v_this_text_length v_this_text_letters (y3_0, y3_1) hy4) gX2_readFavour_X2_next rfl hyV_X2_next ⟨rfl, rfl, (Nat.le_of_ble_eq_true rfl), (Nat.le_of_ble_eq_true rfl)⟩ rfl 0 rfl rfl [0, 2, 3] rfl rfl rfl rfl rfl (Nat.le_of_ble_eq_true rfl) ⟨Nat.zero_le _, Nat.zero_le _⟩ dX2_readFavour_23 ?_
    refine r_aload_n C dX2_readFavour_26 rfl 1 rfl ?_
    refine r_iconst C 0 dX2_readFavour_27 (by decide) ?_
    refine r_aload_n C dX2_readFavour_28 rfl 1 rfl ?_
    refine r_get C in_X2_readFavour_X2 0 rfl rfl 1 (by decide) lk_X2_readFavour_1 rfl rfl dX2_readFavour_29 ?_
    refine r_get C in_X2_readFavour_X5 1 rfl rfl 0 (by decide) lk_X2_readFavour_2 rfl rfl dX2_readFavour_32 ?_
    refine r_iconst C 1 dX2_readFavour_35 (by decide) ?_
    refine r_isub C dX2_readFavour_36 ?_
    obtain ⟨y5, hy6, hf⟩ := bd_some hf
    refine r_roV_i (As := [.int 0, .int (v_this_draft_families - 1)]) (rest := []) C (c_X2_numberHere l D cyI cyZ cyW a_this a_this_text a_this_draft v_this_clauses y3_0 y3_1 a_this_text_letters v_this_text_length v_this_text_letters 0 (v_this_draft_families - 1) y5 hy6) gX2_readFavour_X2_numberHere rfl hyV_X2_numberHere ⟨rfl, rfl, (Nat.le_of_ble_eq_true rfl), (Nat.le_of_ble_eq_true rfl)⟩ rfl 0 rfl rfl [0, 2, 3] rfl rfl rfl (Nat.le_of_ble_eq_true rfl) ⟨Nat.zero_le _, Nat.zero_le _⟩ dX2_readFavour_37 ?_
    refine r_istore_n (lv' := [(3, .int y5), (2, .int y1), (0, .ref a_this), (1, .int x1)]) C dX2_readFavour_40 rfl (by decide) rfl ?_
    refine r_iload_n C dX2_readFavour_41 rfl 0 rfl ?_
    refine r_iconst C (-1) dX2_readFavour_42 (by decide) ?_
    refine r_icmp_eq C 51 dX2_readFavour_43 (by decide) hf (fun hf => ?_) (fun hf => ?_)
    · refine r_iconst C 0 dX2_readFavour_51 (by decide) ?_
      rw [← Option.some.inj hf]
      exact r_zret (r := 0) C hr hlk rfl dX2_readFavour_52
    · refine r_iload_n C dX2_readFavour_46 rfl 0 rfl ?_
      refine r_iload_n C dX2_readFavour_47 rfl 1 rfl ?_
      refine r_icmp_ne C 53 dX2_readFavour_48 (by decide) hf (fun hf => ?_) (fun hf => ?_)
      · refine r_aload_n C dX2_readFavour_53 rfl 2 rfl ?_
        obtain ⟨y7_0, y7_1, hy8, hf⟩ := bd2_some hf
        refine r_callV_v (As := []) (rest := []) (ws' := (w_X2_readFavour cyI cyZ cyW a_this a_this_text a_this_draft v_this_clauses y7_0 y7_1 v_this_draft_families v_this_draft_quota v_this_draft_coldCount a_this_draft_kinds a_this_draft_warmths a_this_draft_prices a_this_draft_favourers a_this_draft_colds a_this_text_letters v_this_text_length v_this_text_letters v_this_draft_favourers)) C (c_X2_next l D cyI cyZ cyW a_this a_this_text a_this_draft v_this_clauses y3_0 y3_1 a_this_text_letters v_this_text_length v_this_text_letters (y7_0, y7_1) hy8) gX2_readFavour_X2_next rfl hyV_X2_next ⟨rfl, rfl, (Nat.le_of_ble_eq_true rfl), (Nat.le_of_ble_eq_true rfl)⟩ rfl 0 rfl rfl [0, 2, 3] rfl rfl rfl rfl rfl (Nat.le_of_ble_eq_true rfl) ⟨Nat.zero_le _, Nat.zero_le _⟩ dX2_readFavour_54 ?_
        refine r_aload_n C dX2_readFavour_57 rfl 2 rfl ?_
        refine r_get C in_X2_readFavour_X2 0 rfl rfl 1 (by decide) lk_X2_readFavour_1 rfl rfl dX2_readFavour_58 ?_
        refine r_get C in_X2_readFavour_X5 1 rfl rfl 6 (by decide) lk_X2_readFavour_3 rfl rfl dX2_readFavour_61 ?_
        refine r_iload_n C dX2_readFavour_64 rfl 0 rfl ?_
        refine r_aload_n C dX2_readFavour_65 rfl 2 rfl ?_
        refine r_get C in_X2_readFavour_X2 0 rfl rfl 1 (by decide) lk_X2_readFavour_1 rfl rfl dX2_readFavour_66 ?_
        refine r_get C in_X2_readFavour_X5 1 rfl rfl 6 (by decide) lk_X2_readFavour_3 rfl rfl dX2_readFavour_69 ?_
        refine r_iload_n C dX2_readFavour_72 rfl 0 rfl ?_
        obtain ⟨hi9, hf⟩ := gd_some hf
        refine r_iald C 4 0 rfl rfl hi9 dX2_readFavour_73 ?_
        refine r_iload_n C dX2_readFavour_74 rfl 1 rfl ?_
        refine r_iload_n C dX2_readFavour_75 rfl 3 rfl ?_
        obtain ⟨y10, hy11, hf⟩ := bd_some hf
        refine r_roSN_i (As := [.int (v_this_draft_favourers (Int32.toNatClampNeg y5)), .int y1, .int x1]) (rest := [.int y5, .ref a_this_draft_favourers]) C (c_X8_with l D cyI cyZ cyW (v_this_draft_favourers (Int32.toNatClampNeg y5)) y1 x1 y10 hy11) gX2_readFavour_X8_with_n133 3 rfl lk_X2_readFavour_33 lk_X2_readFavour_32 rfl hyS_X8_with ⟨rfl, rfl, (Nat.le_of_ble_eq_true rfl), (Nat.le_of_ble_eq_true rfl)⟩ rfl [] rfl rfl rfl (Nat.le_of_ble_eq_true rfl) ⟨Nat.zero_le _, Nat.zero_le _⟩ dX2_readFavour_76 ?_
        obtain ⟨hi12, hf⟩ := gd_some hf
        refine r_iast (ws' := (w_X2_readFavour cyI cyZ cyW a_this a_this_text a_this_draft v_this_clauses y7_0 y7_1 v_this_draft_families v_this_draft_quota v_this_draft_coldCount a_this_draft_kinds a_this_draft_warmths a_this_draft_prices a_this_draft_favourers a_this_draft_colds a_this_text_letters v_this_text_length v_this_text_letters (upd v_this_draft_favourers (Int32.toNatClampNeg y5) y10))) C 4 0 rfl rfl hi12 rfl dX2_readFavour_79 ?_
        refine r_iconst C 1 dX2_readFavour_80 (by decide) ?_
        rw [← Option.some.inj hf]
        exact r_zret (r := 1) C hr hlk rfl dX2_readFavour_81
      · refine r_iconst C 0 dX2_readFavour_51 (by decide) ?_
        rw [← Option.some.inj hf]
        exact r_zret (r := 0) C hr hlk rfl dX2_readFavour_52
  · refine r_iconst C 0 dX2_readFavour_20 (by decide) ?_
    rw [← Option.some.inj hf]
    exact r_zret (r := 0) C hr hlk rfl dX2_readFavour_21

theorem lk_X2_readButton_1 : Cond.fieldLink RX2 21 "ParishCoat$Reader" "draft" "LParishCoat$Told;" ∈ wsX2_readButton := List.mem_of_getElem? (i := 1) rfl
theorem in_X2_readButton_X2 : ∀ w ∈ u_ws RX2 TX2 5, w ∈ wsX2_readButton := fun _ h => List.mem_cons_of_mem _ (List.mem_append_left _ (List.mem_append_left _ (List.mem_append_right _ h)))
theorem hyV_X5_addFamily : yX5_addFamily.cls = RX5 ∧ yX5_addFamily.cls ≠ "java/lang/invoke/MethodHandle" ∧ yX5_addFamily.cls ≠ "java/lang/invoke/VarHandle" ∧ (parseMethodDescriptor yX5_addFamily.desc).map (fun d => d.parameters.length) = some 3 := by decide +kernel
theorem hyS_X5_addFamily : yX5_addFamily.cls ≠ "java/lang/invoke/MethodHandle" ∧ yX5_addFamily.cls ≠ "java/lang/invoke/VarHandle" ∧ (parseMethodDescriptor yX5_addFamily.desc).map (fun d => d.parameters.length) = some 3 := by decide +kernel
def f_X2_readButton (v_this_start : Int32) (v_this_end : Int32) (v_this_text_length : Int32) (v_this_text_letters : Nat → Int32) (v_this_draft_families : Int32) (v_this_draft_kinds : Nat → Int32) (v_this_draft_warmths : Nat → Int32) (v_this_draft_prices : Nat → Int32) (v_this_draft_favourers : Nat → Int32) (x1 : Int32) : Option (Int32 × Int32 × Int32 × Int32 × (Nat → Int32) × (Nat → Int32) × (Nat → Int32) × (Nat → Int32)) := (f_X2_numberHere v_this_start v_this_end v_this_text_length v_this_text_letters 1 9).bind fun y1 => if y1 = (-1) then (some (0, v_this_start, v_this_end, v_this_draft_families, v_this_draft_kinds, v_this_draft_warmths, v_this_draft_prices, v_this_draft_favourers)) else (bd2 (f_X2_next v_this_start v_this_end v_this_text_length v_this_text_letters) (fun y3_0 y3_1 => (f_X2_numberHere y3_0 y3_1 v_this_text_length v_this_text_letters 0 99).bind fun y5 => if y5 = (-1) then (some (0, y3_0, y3_1, v_this_draft_families, v_this_draft_kinds, v_this_draft_warmths, v_this_draft_prices, v_this_draft_favourers)) else (bd2 (f_X2_next y3_0 y3_1 v_this_text_length v_this_text_letters) (fun y7_0 y7_1 => bd5 (f_X5_addFamily v_this_draft_families v_this_draft_kinds v_this_draft_warmths v_this_draft_prices v_this_draft_favourers x1 y1 y5) (fun y9_0 y9_1 y9_2 y9_3 y9_4 => some (1, y7_0, y7_1, y9_0, y9_1, y9_2, y9_3, y9_4))))))
def w_X2_readButton (cyI cyZ cyW : ClassId) (a_this : Nat) (a_this_text : Nat) (a_this_draft : Nat) (v_this_clauses : Int32) (v_this_start : Int32) (v_this_end : Int32) (a_this_text_letters : Nat) (v_this_text_length : Int32) (v_this_text_letters : Nat → Int32) (v_this_draft_families : Int32) (v_this_draft_quota : Int32) (v_this_draft_coldCount : Int32) (a_this_draft_kinds : Nat) (a_this_draft_warmths : Nat) (a_this_draft_prices : Nat) (a_this_draft_favourers : Nat) (a_this_draft_colds : Nat) (v_this_draft_kinds : Nat → Int32) (v_this_draft_warmths : Nat → Int32) (v_this_draft_prices : Nat → Int32) (v_this_draft_favourers : Nat → Int32) : va_W := [(a_this, .inr (2, [.ref a_this_text, .ref a_this_draft, .int v_this_clauses, .int v_this_start, .int v_this_end])), (a_this_text, .inr (0, [.ref a_this_text_letters, .int v_this_text_length])), (a_this_text_letters, .inl (cyI, 160, .inl v_this_text_letters)), (a_this_draft, .inr (5, [.int v_this_draft_families, .int v_this_draft_quota, .int v_this_draft_coldCount, .ref a_this_draft_kinds, .ref a_this_draft_warmths, .ref a_this_draft_prices, .ref a_this_draft_favourers, .ref a_this_draft_colds])), (a_this_draft_kinds, .inl (cyI, 7, .inl v_this_draft_kinds)), (a_this_draft_warmths, .inl (cyI, 7, .inl v_this_draft_warmths)), (a_this_draft_prices, .inl (cyI, 7, .inl v_this_draft_prices)), (a_this_draft_favourers, .inl (cyI, 7, .inl v_this_draft_favourers))]
set_option maxHeartbeats 4000000 in
set_option maxRecDepth 100000 in
theorem c_X2_readButton (l : Launch) (D : va_G) (cyI cyZ cyW : ClassId) (a_this : Nat) (a_this_text : Nat) (a_this_draft : Nat) (v_this_clauses : Int32) (v_this_start : Int32) (v_this_end : Int32) (a_this_text_letters : Nat) (v_this_text_length : Int32) (v_this_text_letters : Nat → Int32) (v_this_draft_families : Int32) (v_this_draft_quota : Int32) (v_this_draft_coldCount : Int32) (a_this_draft_kinds : Nat) (a_this_draft_warmths : Nat) (a_this_draft_prices : Nat) (a_this_draft_favourers : Nat) (a_this_draft_colds : Nat) (v_this_draft_kinds : Nat → Int32) (v_this_draft_warmths : Nat → Int32) (v_this_draft_prices : Nat → Int32) (v_this_draft_favourers : Nat → Int32) (x1 : Int32) (res : Int32 × Int32 × Int32 × Int32 × (Nat → Int32) × (Nat → Int32) × (Nat → Int32) × (Nat → Int32)) (hf : f_X2_readButton v_this_start v_this_end v_this_text_length v_this_text_letters v_this_draft_families v_this_draft_kinds v_this_draft_warmths v_this_draft_prices v_this_draft_favourers x1 = some res) : ∀ sz, Met l yX2_readButton wsX2_readButton { frames := 3, cells := 0, slots := 0, locals := 66 } (PCx D (tyG cyI cyZ cyW) [.ref a_this, .int x1] (w_X2_readButton cyI cyZ cyW a_this a_this_text a_this_draft v_this_clauses v_this_start v_this_end a_this_text_letters v_this_text_length v_this_text_letters v_this_draft_families v_this_draft_quota v_this_draft_coldCount a_this_draft_kinds a_this_draft_warmths a_this_draft_prices a_this_draft_favourers a_this_draft_colds v_this_draft_kinds v_this_draft_warmths v_this_draft_prices v_this_draft_favourers) sz) (QI D (tyG cyI cyZ cyW) (w_X2_readButton cyI cyZ cyW a_this a_this_text a_this_draft v_this_clauses v_this_start v_this_end a_this_text_letters v_this_text_length v_this_text_letters v_this_draft_families v_this_draft_quota v_this_draft_coldCount a_this_draft_kinds a_this_draft_warmths a_this_draft_prices a_this_draft_favourers a_this_draft_colds v_this_draft_kinds v_this_draft_warmths v_this_draft_prices v_this_draft_favourers) sz res.1 (w_X2_readButton cyI cyZ cyW a_this a_this_text a_this_draft v_this_clauses res.2.1 res.2.2.1 a_this_text_letters v_this_text_length v_this_text_letters res.2.2.2.1 v_this_draft_quota v_this_draft_coldCount a_this_draft_kinds a_this_draft_warmths a_this_draft_prices a_this_draft_favourers a_this_draft_colds res.2.2.2.2.1 res.2.2.2.2.2.1 res.2.2.2.2.2.2.1 res.2.2.2.2.2.2.2)) 0 0 (va_A (w_X2_readButton cyI cyZ cyW a_this a_this_text a_this_draft v_this_clauses v_this_start v_this_end a_this_text_letters v_this_text_length v_this_text_letters v_this_draft_families v_this_draft_quota v_this_draft_coldCount a_this_draft_kinds a_this_draft_warmths a_this_draft_prices a_this_draft_favourers a_this_draft_colds v_this_draft_kinds v_this_draft_warmths v_this_draft_prices v_this_draft_favourers) sz) := by
  intro sz
  refine met_of (cc := cX2_readButton) (maxL := 4) (ret := (some .boolean)) (lv0 := [(0, .ref a_this), (1, .int x1)]) (by decide) rfl ⟨(Nat.le_of_ble_eq_true rfl), rfl⟩ ?_
  intro p e s m below meth c C hr hlk hnm hsz
  subst hsz
  have C : CX p s m _ c 4 cX2_readButton RX2 wsX2_readButton D (tyG cyI cyZ cyW) _ := C
  refine r_aload_n C dX2_readButton_0 rfl 0 rfl ?_
  refine r_iconst C 1 dX2_readButton_1 (by decide) ?_
  refine r_bipush C 9 dX2_readButton_2 (by decide) ?_
  obtain ⟨y1, hy2, hf⟩ := bd_some hf
  refine r_roV_i (As := [.int 1, .int 9]) (rest := []) C (c_X2_numberHere l D cyI cyZ cyW a_this a_this_text a_this_draft v_this_clauses v_this_start v_this_end a_this_text_letters v_this_text_length v_this_text_letters 1 9 y1 hy2) gX2_readButton_X2_numberHere rfl hyV_X2_numberHere ⟨rfl, rfl, (Nat.le_of_ble_eq_true rfl), (Nat.le_of_ble_eq_true rfl)⟩ rfl 0 rfl rfl [0, 1, 2] rfl rfl rfl (Nat.le_of_ble_eq_true rfl) ⟨Nat.zero_le _, Nat.zero_le _⟩ dX2_readButton_4 ?_
  refine r_istore_n (lv' := [(2, .int y1), (0, .ref a_this), (1, .int x1)]) C dX2_readButton_7 rfl (by decide) rfl ?_
  refine r_iload_n C dX2_readButton_8 rfl 0 rfl ?_
  refine r_iconst C (-1) dX2_readButton_9 (by decide) ?_
  refine r_icmp_ne C 15 dX2_readButton_10 (by decide) hf (fun hf => ?_) (fun hf => ?_)
  · refine r_aload_n C dX2_readButton_15 rfl 1 rfl ?_
    obtain ⟨y3_0, y3_1, hy4, hf⟩ := bd2_some hf
    refine r_callV_v (As := []) (rest := []) (ws' := (w_X2_readButton cyI cyZ cyW a_this a_this_text a_this_draft v_this_clauses y3_0 y3_1 a_this_text_letters v_this_text_length v_this_text_letters v_this_draft_families v_this_draft_quota v_this_draft_coldCount a_this_draft_kinds a_this_draft_warmths a_this_draft_prices a_this_draft_favourers a_this_draft_colds v_this_draft_kinds v_this_draft_warmths v_this_draft_prices v_this_draft_favourers)) C (c_X2_next l D cyI cyZ cyW a_this a_this_text a_this_draft v_this_clauses v_this_start v_this_end a_this_text_letters v_this_text_length v_this_text_letters (y3_0, y3_1) hy4) gX2_readButton_X2_next rfl hyV_X2_next ⟨rfl, rfl, (Nat.le_of_ble_eq_true rfl), (Nat.le_of_ble_eq_true rfl)⟩ rfl 0 rfl rfl [0, 1, 2] rfl rfl rfl rfl rfl (Nat.le_of_ble_eq_true rfl) ⟨Nat.zero_le _, Nat.zero_le _⟩ dX2_readButton_16 ?_
    refine r_aload_n C dX2_readButton_19 rfl 1 rfl ?_
    refine r_iconst C 0 dX2_readButton_20 (by decide) ?_
    refine r_bipush C 99 dX2_readButton_21 (by decide) ?_
    obtain ⟨y5, hy6, hf⟩ := bd_some hf
    refine r_roV_i (As := [.int 0, .int 99]) (rest := []) C (c_X2_numberHere l D cyI cyZ cyW a_this a_this_text a_this_draft v_this_clauses y3_0 y3_1 a_this_text_letters v_this_text_length v_this_text_letters 0 99 y5 hy6) gX2_readButton_X2_numberHere rfl hyV_X2_numberHere ⟨rfl, rfl, (Nat.le_of_ble_eq_true rfl), (Nat.le_of_ble_eq_true rfl)⟩ rfl 0 rfl rfl [0, 1, 2] rfl rfl rfl (Nat.le_of_ble_eq_true rfl) ⟨Nat.zero_le _, Nat.zero_le _⟩ dX2_readButton_23 ?_
    refine r_istore_n (lv' := [(3, .int y5), (2, .int y1), (0, .ref a_this), (1, .int x1)]) C dX2_readButton_26 rfl (by decide) rfl ?_
    refine r_iload_n C dX2_readButton_27 rfl 0 rfl ?_
    refine r_iconst C (-1) dX2_readButton_28 (by decide) ?_
    refine r_icmp_ne C 34 dX2_readButton_29 (by decide) hf (fun hf => ?_) (fun hf => ?_)
    · refine r_aload_n C dX2_readButton_34 rfl 2 rfl ?_
      obtain ⟨y7_0, y7_1, hy8, hf⟩ := bd2_some hf
      refine r_callV_v (As := []) (rest := []) (ws' := (w_X2_readButton cyI cyZ cyW a_this a_this_text a_this_draft v_this_clauses y7_0 y7_1 a_this_text_letters v_this_text_length v_this_text_letters v_this_draft_families v_this_draft_quota v_this_draft_coldCount a_this_draft_kinds a_this_draft_warmths a_this_draft_prices a_this_draft_favourers a_this_draft_colds v_this_draft_kinds v_this_draft_warmths v_this_draft_prices v_this_draft_favourers)) C (c_X2_next l D cyI cyZ cyW a_this a_this_text a_this_draft v_this_clauses y3_0 y3_1 a_this_text_letters v_this_text_length v_this_text_letters (y7_0, y7_1) hy8) gX2_readButton_X2_next rfl hyV_X2_next ⟨rfl, rfl, (Nat.le_of_ble_eq_true rfl), (Nat.le_of_ble_eq_true rfl)⟩ rfl 0 rfl rfl [0, 1, 2] rfl rfl rfl rfl rfl (Nat.le_of_ble_eq_true rfl) ⟨Nat.zero_le _, Nat.zero_le _⟩ dX2_readButton_35 ?_
      refine r_aload_n C dX2_readButton_38 rfl 2 rfl ?_
      refine r_get C in_X2_readButton_X2 0 rfl rfl 1 (by decide) lk_X2_readButton_1 rfl rfl dX2_readButton_39 ?_
      refine r_iload_n C dX2_readButton_42 rfl 3 rfl ?_
      refine r_iload_n C dX2_readButton_43 rfl 1 rfl ?_
      refine r_iload_n C dX2_readButton_44 rfl 0 rfl ?_
      obtain ⟨y9_0, y9_1, y9_2, y9_3, y9_4, hy10, hf⟩ := bd5_some hf
      refine r_callV_v (As := [.int x1, .int y1, .int y5]) (rest := []) (ws' := (w_X2_readButton cyI cyZ cyW a_this a_this_text a_this_draft v_this_clauses y7_0 y7_1 a_this_text_letters v_this_text_length v_this_text_letters y9_0 v_this_draft_quota v_this_draft_coldCount a_this_draft_kinds a_this_draft_warmths a_this_draft_prices a_this_draft_favourers a_this_draft_colds y9_1 y9_2 y9_3 y9_4)) C (c_X5_addFamily l D cyI cyZ cyW a_this_draft v_this_draft_families v_this_draft_quota v_this_draft_coldCount a_this_draft_kinds a_this_draft_warmths a_this_draft_prices a_this_draft_favourers a_this_draft_colds v_this_draft_kinds v_this_draft_warmths v_this_draft_prices v_this_draft_favourers x1 y1 y5 (y9_0, y9_1, y9_2, y9_3, y9_4) hy10) gX2_readButton_X5_addFamily rfl hyV_X5_addFamily ⟨rfl, rfl, (Nat.le_of_ble_eq_true rfl), (Nat.le_of_ble_eq_true rfl)⟩ rfl 3 rfl rfl [3, 4, 5, 6, 7] rfl rfl rfl rfl rfl (Nat.le_of_ble_eq_true rfl) ⟨Nat.zero_le _, Nat.zero_le _⟩ dX2_readButton_45 ?_
      refine r_iconst C 1 dX2_readButton_48 (by decide) ?_
      rw [← Option.some.inj hf]
      exact r_zret (r := 1) C hr hlk rfl dX2_readButton_49
    · refine r_iconst C 0 dX2_readButton_32 (by decide) ?_
      rw [← Option.some.inj hf]
      exact r_zret (r := 0) C hr hlk rfl dX2_readButton_33
  · refine r_iconst C 0 dX2_readButton_13 (by decide) ?_
    rw [← Option.some.inj hf]
    exact r_zret (r := 0) C hr hlk rfl dX2_readButton_14

theorem lk_X2_readClause_1 : Cond.fieldLink RX2 21 "ParishCoat$Reader" "draft" "LParishCoat$Told;" ∈ wsX2_readClause := List.mem_of_getElem? (i := 1) rfl
theorem lk_X2_readClause_2 : Cond.fieldLink RX2 70 "ParishCoat$Told" "coldCount" "I" ∈ wsX2_readClause := List.mem_of_getElem? (i := 2) rfl
theorem in_X2_readClause_X2 : ∀ w ∈ u_ws RX2 TX2 5, w ∈ wsX2_readClause := fun _ h => List.mem_cons_of_mem _ (List.mem_append_left _ (List.mem_append_left _ (List.mem_append_right _ h)))
theorem in_X2_readClause_X5 : ∀ w ∈ u_ws RX5 TX5 8, w ∈ wsX2_readClause := fun _ h => List.mem_cons_of_mem _ (List.mem_append_left _ (List.mem_append_right _ h))
theorem hyV_X2_wordHere : yX2_wordHere.cls = RX2 ∧ yX2_wordHere.cls ≠ "java/lang/invoke/MethodHandle" ∧ yX2_wordHere.cls ≠ "java/lang/invoke/VarHandle" ∧ (parseMethodDescriptor yX2_wordHere.desc).map (fun d => d.parameters.length) = some 0 := by decide +kernel
theorem hyS_X2_wordHere : yX2_wordHere.cls ≠ "java/lang/invoke/MethodHandle" ∧ yX2_wordHere.cls ≠ "java/lang/invoke/VarHandle" ∧ (parseMethodDescriptor yX2_wordHere.desc).map (fun d => d.parameters.length) = some 0 := by decide +kernel
theorem hyV_X2_hasRoomFor : yX2_hasRoomFor.cls = RX2 ∧ yX2_hasRoomFor.cls ≠ "java/lang/invoke/MethodHandle" ∧ yX2_hasRoomFor.cls ≠ "java/lang/invoke/VarHandle" ∧ (parseMethodDescriptor yX2_hasRoomFor.desc).map (fun d => d.parameters.length) = some 1 := by decide +kernel
theorem hyS_X2_hasRoomFor : yX2_hasRoomFor.cls ≠ "java/lang/invoke/MethodHandle" ∧ yX2_hasRoomFor.cls ≠ "java/lang/invoke/VarHandle" ∧ (parseMethodDescriptor yX2_hasRoomFor.desc).map (fun d => d.parameters.length) = some 1 := by decide +kernel
theorem hyV_X2_readQuota : yX2_readQuota.cls = RX2 ∧ yX2_readQuota.cls ≠ "java/lang/invoke/MethodHandle" ∧ yX2_readQuota.cls ≠ "java/lang/invoke/VarHandle" ∧ (parseMethodDescriptor yX2_readQuota.desc).map (fun d => d.parameters.length) = some 0 := by decide +kernel
theorem hyS_X2_readQuota : yX2_readQuota.cls ≠ "java/lang/invoke/MethodHandle" ∧ yX2_readQuota.cls ≠ "java/lang/invoke/VarHandle" ∧ (parseMethodDescriptor yX2_readQuota.desc).map (fun d => d.parameters.length) = some 0 := by decide +kernel
theorem hyV_X2_readCold : yX2_readCold.cls = RX2 ∧ yX2_readCold.cls ≠ "java/lang/invoke/MethodHandle" ∧ yX2_readCold.cls ≠ "java/lang/invoke/VarHandle" ∧ (parseMethodDescriptor yX2_readCold.desc).map (fun d => d.parameters.length) = some 0 := by decide +kernel
theorem hyS_X2_readCold : yX2_readCold.cls ≠ "java/lang/invoke/MethodHandle" ∧ yX2_readCold.cls ≠ "java/lang/invoke/VarHandle" ∧ (parseMethodDescriptor yX2_readCold.desc).map (fun d => d.parameters.length) = some 0 := by decide +kernel
theorem hyV_X5_clear : yX5_clear.cls = RX5 ∧ yX5_clear.cls ≠ "java/lang/invoke/MethodHandle" ∧ yX5_clear.cls ≠ "java/lang/invoke/VarHandle" ∧ (parseMethodDescriptor yX5_clear.desc).map (fun d => d.parameters.length) = some 0 := by decide +kernel
theorem hyS_X5_clear : yX5_clear.cls ≠ "java/lang/invoke/MethodHandle" ∧ yX5_clear.cls ≠ "java/lang/invoke/VarHandle" ∧ (parseMethodDescriptor yX5_clear.desc).map (fun d => d.parameters.length) = some 0 := by decide +kernel
theorem hyV_X2_readButton : yX2_readButton.cls = RX2 ∧ yX2_readButton.cls ≠ "java/lang/invoke/MethodHandle" ∧ yX2_readButton.cls ≠ "java/lang/invoke/VarHandle" ∧ (parseMethodDescriptor yX2_readButton.desc).map (fun d => d.parameters.length) = some 1 := by decide +kernel
theorem hyS_X2_readButton : yX2_readButton.cls ≠ "java/lang/invoke/MethodHandle" ∧ yX2_readButton.cls ≠ "java/lang/invoke/VarHandle" ∧ (parseMethodDescriptor yX2_readButton.desc).map (fun d => d.parameters.length) = some 1 := by decide +kernel
theorem hyV_X2_readFavour : yX2_readFavour.cls = RX2 ∧ yX2_readFavour.cls ≠ "java/lang/invoke/MethodHandle" ∧ yX2_readFavour.cls ≠ "java/lang/invoke/VarHandle" ∧ (parseMethodDescriptor yX2_readFavour.desc).map (fun d => d.parameters.length) = some 1 := by decide +kernel
theorem hyS_X2_readFavour : yX2_readFavour.cls ≠ "java/lang/invoke/MethodHandle" ∧ yX2_readFavour.cls ≠ "java/lang/invoke/VarHandle" ∧ (parseMethodDescriptor yX2_readFavour.desc).map (fun d => d.parameters.length) = some 1 := by decide +kernel
def f_X2_readClause_b104 (v_this_text_length : Int32) (v_this_text_letters : Nat → Int32) (s0 : Int32) (v_this_start : Int32) (v_this_end : Int32) (v_this_draft_families : Int32) (v_this_draft_quota : Int32) (v_this_draft_coldCount : Int32) (v_this_draft_colds : Nat → Int32) (v_this_draft_kinds : Nat → Int32) (v_this_draft_warmths : Nat → Int32) (v_this_draft_prices : Nat → Int32) (v_this_draft_favourers : Nat → Int32) : Option (Int32 × Int32 × Int32 × Int32 × Int32 × Int32 × (Nat → Int32) × (Nat → Int32) × (Nat → Int32) × (Nat → Int32) × (Nat → Int32)) := bd4 (f_X2_readFavour v_this_start v_this_end v_this_draft_families v_this_text_length v_this_text_letters v_this_draft_favourers s0) (fun y24_0 y24_1 y24_2 y24_3 => bz_ y24_0 (some (y24_0, y24_1, y24_2, v_this_draft_families, v_this_draft_quota, v_this_draft_coldCount, v_this_draft_colds, v_this_draft_kinds, v_this_draft_warmths, v_this_draft_prices, y24_3)))
def f_X2_readClause (v_this_start : Int32) (v_this_end : Int32) (v_this_text_length : Int32) (v_this_text_letters : Nat → Int32) (v_this_draft_families : Int32) (v_this_draft_quota : Int32) (v_this_draft_coldCount : Int32) (v_this_draft_colds : Nat → Int32) (v_this_draft_kinds : Nat → Int32) (v_this_draft_warmths : Nat → Int32) (v_this_draft_prices : Nat → Int32) (v_this_draft_favourers : Nat → Int32) : Option (Int32 × Int32 × Int32 × Int32 × Int32 × Int32 × (Nat → Int32) × (Nat → Int32) × (Nat → Int32) × (Nat → Int32) × (Nat → Int32)) := (f_X2_wordHere v_this_start v_this_end v_this_text_length v_this_text_letters).bind fun y1 => if y1 = (-1) then (some (0, v_this_start, v_this_end, v_this_draft_families, v_this_draft_quota, v_this_draft_coldCount, v_this_draft_colds, v_this_draft_kinds, v_this_draft_warmths, v_this_draft_prices, v_this_draft_favourers)) else ((f_X2_hasRoomFor v_this_draft_families v_this_draft_coldCount y1).bind fun y3 => if y3 = 0 then (some (0, v_this_start, v_this_end, v_this_draft_families, v_this_draft_quota, v_this_draft_coldCount, v_this_draft_colds, v_this_draft_kinds, v_this_draft_warmths, v_this_draft_prices, v_this_draft_favourers)) else (bd2 (f_X2_next v_this_start v_this_end v_this_text_length v_this_text_letters) (fun y5_0 y5_1 => if y1 = 4 then (if y1 = 4 then (f_X2_readClause_b104 v_this_text_length v_this_text_letters 1 y5_0 y5_1 v_this_draft_families v_this_draft_quota v_this_draft_coldCount v_this_draft_colds v_this_draft_kinds v_this_draft_warmths v_this_draft_prices v_this_draft_favourers) else (f_X2_readClause_b104 v_this_text_length v_this_text_letters 0 y5_0 y5_1 v_this_draft_families v_this_draft_quota v_this_draft_coldCount v_this_draft_colds v_this_draft_kinds v_this_draft_warmths v_this_draft_prices v_this_draft_favourers)) else (if y1 = 5 then (if y1 = 4 then (f_X2_readClause_b104 v_this_text_length v_this_text_letters 1 y5_0 y5_1 v_this_draft_families v_this_draft_quota v_this_draft_coldCount v_this_draft_colds v_this_draft_kinds v_this_draft_warmths v_this_draft_prices v_this_draft_favourers) else (f_X2_readClause_b104 v_this_text_length v_this_text_letters 0 y5_0 y5_1 v_this_draft_families v_this_draft_quota v_this_draft_coldCount v_this_draft_colds v_this_draft_kinds v_this_draft_warmths v_this_draft_prices v_this_draft_favourers)) else (if y1 = 6 then (bd4 (f_X2_readQuota y5_0 y5_1 v_this_text_length v_this_text_letters v_this_draft_quota) (fun y9_0 y9_1 y9_2 y9_3 => bz_ y9_0 (some (y9_0, y9_1, y9_2, v_this_draft_families, y9_3, v_this_draft_coldCount, v_this_draft_colds, v_this_draft_kinds, v_this_draft_warmths, v_this_draft_prices, v_this_draft_favourers)))) else (if y1 = 7 then (bd5 (f_X2_readCold y5_0 y5_1 v_this_text_length v_this_text_letters v_this_draft_coldCount v_this_draft_colds) (fun y13_0 y13_1 y13_2 y13_3 y13_4 => bz_ y13_0 (some (y13_0, y13_1, y13_2, v_this_draft_families, v_this_draft_quota, y13_3, y13_4, v_this_draft_kinds, v_this_draft_warmths, v_this_draft_prices, v_this_draft_favourers)))) else (if y1 = 8 then (some (1, y5_0, y5_1, v_this_draft_families, v_this_draft_quota, 0, v_this_draft_colds, v_this_draft_kinds, v_this_draft_warmths, v_this_draft_prices, v_this_draft_favourers)) else (if y1 = 9 then (bd3 (f_X5_clear v_this_draft_families v_this_draft_quota v_this_draft_coldCount) (fun y18_0 y18_1 y18_2 => some (1, y5_0, y5_1, y18_0, y18_1, y18_2, v_this_draft_colds, v_this_draft_kinds, v_this_draft_warmths, v_this_draft_prices, v_this_draft_favourers))) else (bd8 (f_X2_readButton y5_0 y5_1 v_this_text_length v_this_text_letters v_this_draft_families v_this_draft_kinds v_this_draft_warmths v_this_draft_prices v_this_draft_favourers y1) (fun y21_0 y21_1 y21_2 y21_3 y21_4 y21_5 y21_6 y21_7 => bz_ y21_0 (some (y21_0, y21_1, y21_2, y21_3, v_this_draft_quota, v_this_draft_coldCount, v_this_draft_colds, y21_4, y21_5, y21_6, y21_7))))))))))))
def w_X2_readClause (cyI cyZ cyW : ClassId) (a_this : Nat) (a_this_text : Nat) (a_this_draft : Nat) (v_this_clauses : Int32) (v_this_start : Int32) (v_this_end : Int32) (a_this_text_letters : Nat) (v_this_text_length : Int32) (v_this_text_letters : Nat → Int32) (v_this_draft_families : Int32) (v_this_draft_quota : Int32) (v_this_draft_coldCount : Int32) (a_this_draft_kinds : Nat) (a_this_draft_warmths : Nat) (a_this_draft_prices : Nat) (a_this_draft_favourers : Nat) (a_this_draft_colds : Nat) (v_this_draft_colds : Nat → Int32) (v_this_draft_kinds : Nat → Int32) (v_this_draft_warmths : Nat → Int32) (v_this_draft_prices : Nat → Int32) (v_this_draft_favourers : Nat → Int32) : va_W := [(a_this, .inr (2, [.ref a_this_text, .ref a_this_draft, .int v_this_clauses, .int v_this_start, .int v_this_end])), (a_this_text, .inr (0, [.ref a_this_text_letters, .int v_this_text_length])), (a_this_text_letters, .inl (cyI, 160, .inl v_this_text_letters)), (a_this_draft, .inr (5, [.int v_this_draft_families, .int v_this_draft_quota, .int v_this_draft_coldCount, .ref a_this_draft_kinds, .ref a_this_draft_warmths, .ref a_this_draft_prices, .ref a_this_draft_favourers, .ref a_this_draft_colds])), (a_this_draft_colds, .inl (cyI, 6, .inl v_this_draft_colds)), (a_this_draft_kinds, .inl (cyI, 7, .inl v_this_draft_kinds)), (a_this_draft_warmths, .inl (cyI, 7, .inl v_this_draft_warmths)), (a_this_draft_prices, .inl (cyI, 7, .inl v_this_draft_prices)), (a_this_draft_favourers, .inl (cyI, 7, .inl v_this_draft_favourers))]
set_option maxHeartbeats 4000000 in
set_option maxRecDepth 100000 in
theorem c_X2_readClause (l : Launch) (D : va_G) (cyI cyZ cyW : ClassId) (a_this : Nat) (a_this_text : Nat) (a_this_draft : Nat) (v_this_clauses : Int32) (v_this_start : Int32) (v_this_end : Int32) (a_this_text_letters : Nat) (v_this_text_length : Int32) (v_this_text_letters : Nat → Int32) (v_this_draft_families : Int32) (v_this_draft_quota : Int32) (v_this_draft_coldCount : Int32) (a_this_draft_kinds : Nat) (a_this_draft_warmths : Nat) (a_this_draft_prices : Nat) (a_this_draft_favourers : Nat) (a_this_draft_colds : Nat) (v_this_draft_colds : Nat → Int32) (v_this_draft_kinds : Nat → Int32) (v_this_draft_warmths : Nat → Int32) (v_this_draft_prices : Nat → Int32) (v_this_draft_favourers : Nat → Int32) (res : Int32 × Int32 × Int32 × Int32 × Int32 × Int32 × (Nat → Int32) × (Nat → Int32) × (Nat → Int32) × (Nat → Int32) × (Nat → Int32)) (hf : f_X2_readClause v_this_start v_this_end v_this_text_length v_this_text_letters v_this_draft_families v_this_draft_quota v_this_draft_coldCount v_this_draft_colds v_this_draft_kinds v_this_draft_warmths v_this_draft_prices v_this_draft_favourers = some res) : ∀ sz, Met l yX2_readClause wsX2_readClause { frames := 6, cells := 0, slots := 0, locals := 142 } (PCe D (tyG cyI cyZ cyW) OU [.ref a_this] (w_X2_readClause cyI cyZ cyW a_this a_this_text a_this_draft v_this_clauses v_this_start v_this_end a_this_text_letters v_this_text_length v_this_text_letters v_this_draft_families v_this_draft_quota v_this_draft_coldCount a_this_draft_kinds a_this_draft_warmths a_this_draft_prices a_this_draft_favourers a_this_draft_colds v_this_draft_colds v_this_draft_kinds v_this_draft_warmths v_this_draft_prices v_this_draft_favourers) sz) (QI D (tyG cyI cyZ cyW) (w_X2_readClause cyI cyZ cyW a_this a_this_text a_this_draft v_this_clauses v_this_start v_this_end a_this_text_letters v_this_text_length v_this_text_letters v_this_draft_families v_this_draft_quota v_this_draft_coldCount a_this_draft_kinds a_this_draft_warmths a_this_draft_prices a_this_draft_favourers a_this_draft_colds v_this_draft_colds v_this_draft_kinds v_this_draft_warmths v_this_draft_prices v_this_draft_favourers) sz res.1 (w_X2_readClause cyI cyZ cyW a_this a_this_text a_this_draft v_this_clauses res.2.1 res.2.2.1 a_this_text_letters v_this_text_length v_this_text_letters res.2.2.2.1 res.2.2.2.2.1 res.2.2.2.2.2.1 a_this_draft_kinds a_this_draft_warmths a_this_draft_prices a_this_draft_favourers a_this_draft_colds res.2.2.2.2.2.2.1 res.2.2.2.2.2.2.2.1 res.2.2.2.2.2.2.2.2.1 res.2.2.2.2.2.2.2.2.2.1 res.2.2.2.2.2.2.2.2.2.2)) 0 0 (va_A (w_X2_readClause cyI cyZ cyW a_this a_this_text a_this_draft v_this_clauses v_this_start v_this_end a_this_text_letters v_this_text_length v_this_text_letters v_this_draft_families v_this_draft_quota v_this_draft_coldCount a_this_draft_kinds a_this_draft_warmths a_this_draft_prices a_this_draft_favourers a_this_draft_colds v_this_draft_colds v_this_draft_kinds v_this_draft_warmths v_this_draft_prices v_this_draft_favourers) sz) := by
  intro sz
  refine met_ofE (cc := cX2_readClause) (maxL := 2) (ret := (some .boolean)) (lv0 := [(0, .ref a_this)]) (by decide) rfl ⟨(Nat.le_of_ble_eq_true rfl), rfl⟩ ?_
  intro p e s m below meth c C hE hr hlk hnm hsz
  subst hsz
  have C : CX p s m _ c 2 cX2_readClause RX2 wsX2_readClause D (tyG cyI cyZ cyW) _ := C
  obtain ⟨Z, hZ⟩ : ∃ Z : va_W → Nat → LV → List Value → Prop, Z = ST p l e { frames := 6, cells := 0, slots := 0, locals := 142 } s m [.ref a_this].toArray below meth c 2 D (va_A (w_X2_readClause cyI cyZ cyW a_this a_this_text a_this_draft v_this_clauses v_this_start v_this_end a_this_text_letters v_this_text_length v_this_text_letters v_this_draft_families v_this_draft_quota v_this_draft_coldCount a_this_draft_kinds a_this_draft_warmths a_this_draft_prices a_this_draft_favourers a_this_draft_colds v_this_draft_colds v_this_draft_kinds v_this_draft_warmths v_this_draft_prices v_this_draft_favourers) s.heap.size) (MQ below (QI D (tyG cyI cyZ cyW) (w_X2_readClause cyI cyZ cyW a_this a_this_text a_this_draft v_this_clauses v_this_start v_this_end a_this_text_letters v_this_text_length v_this_text_letters v_this_draft_families v_this_draft_quota v_this_draft_coldCount a_this_draft_kinds a_this_draft_warmths a_this_draft_prices a_this_draft_favourers a_this_draft_colds v_this_draft_colds v_this_draft_kinds v_this_draft_warmths v_this_draft_prices v_this_draft_favourers) s.heap.size res.1 (w_X2_readClause cyI cyZ cyW a_this a_this_text a_this_draft v_this_clauses res.2.1 res.2.2.1 a_this_text_letters v_this_text_length v_this_text_letters res.2.2.2.1 res.2.2.2.2.1 res.2.2.2.2.2.1 a_this_draft_kinds a_this_draft_warmths a_this_draft_prices a_this_draft_favourers a_this_draft_colds res.2.2.2.2.2.2.1 res.2.2.2.2.2.2.2.1 res.2.2.2.2.2.2.2.2.1 res.2.2.2.2.2.2.2.2.2.1 res.2.2.2.2.2.2.2.2.2.2)) [.ref a_this].toArray s 0 0 (va_A (w_X2_readClause cyI cyZ cyW a_this a_this_text a_this_draft v_this_clauses v_this_start v_this_end a_this_text_letters v_this_text_length v_this_text_letters v_this_draft_families v_this_draft_quota v_this_draft_coldCount a_this_draft_kinds a_this_draft_warmths a_this_draft_prices a_this_draft_favourers a_this_draft_colds v_this_draft_colds v_this_draft_kinds v_this_draft_warmths v_this_draft_prices v_this_draft_favourers) s.heap.size)) 0 0 := ⟨_, rfl⟩
  have hb_104 : ∀ (s0 : Int32) (v_this_start : Int32) (v_this_end : Int32) (v_this_draft_families : Int32) (v_this_draft_quota : Int32) (v_this_draft_coldCount : Int32) (v_this_draft_colds : Nat → Int32) (v_this_draft_kinds : Nat → Int32) (v_this_draft_warmths : Nat → Int32) (v_this_draft_prices : Nat → Int32) (v_this_draft_favourers : Nat → Int32), f_X2_readClause_b104 v_this_text_length v_this_text_letters s0 v_this_start v_this_end v_this_draft_families v_this_draft_quota v_this_draft_coldCount v_this_draft_colds v_this_draft_kinds v_this_draft_warmths v_this_draft_prices v_this_draft_favourers = some res → Z (w_X2_readClause cyI cyZ cyW a_this a_this_text a_this_draft v_this_clauses v_this_start v_this_end a_this_text_letters v_this_text_length v_this_text_letters v_this_draft_families v_this_draft_quota v_this_draft_coldCount a_this_draft_kinds a_this_draft_warmths a_this_draft_prices a_this_draft_favourers a_this_draft_colds v_this_draft_colds v_this_draft_kinds v_this_draft_warmths v_this_draft_prices v_this_draft_favourers) 104 [] [.int s0, .ref a_this] := by
    subst hZ
    intro s0 v_this_start v_this_end v_this_draft_families v_this_draft_quota v_this_draft_coldCount v_this_draft_colds v_this_draft_kinds v_this_draft_warmths v_this_draft_prices v_this_draft_favourers hf
    obtain ⟨y24_0, y24_1, y24_2, y24_3, hy25, hf⟩ := bd4_some hf
    refine r_callV_i (As := [.int s0]) (rest := []) (ws' := (w_X2_readClause cyI cyZ cyW a_this a_this_text a_this_draft v_this_clauses y24_1 y24_2 a_this_text_letters v_this_text_length v_this_text_letters v_this_draft_families v_this_draft_quota v_this_draft_coldCount a_this_draft_kinds a_this_draft_warmths a_this_draft_prices a_this_draft_favourers a_this_draft_colds v_this_draft_colds v_this_draft_kinds v_this_draft_warmths v_this_draft_prices y24_3)) C (c_X2_readFavour l D cyI cyZ cyW a_this a_this_text a_this_draft v_this_clauses v_this_start v_this_end v_this_draft_families v_this_draft_quota v_this_draft_coldCount a_this_draft_kinds a_this_draft_warmths a_this_draft_prices a_this_draft_favourers a_this_draft_colds a_this_text_letters v_this_text_length v_this_text_letters v_this_draft_favourers s0 (y24_0, y24_1, y24_2, y24_3) hy25) gX2_readClause_X2_readFavour rfl hyV_X2_readFavour ⟨rfl, rfl, (Nat.le_of_ble_eq_true rfl), (Nat.le_of_ble_eq_true rfl)⟩ rfl 0 rfl rfl [0, 3, 1, 2, 8] rfl rfl rfl rfl rfl (Nat.le_of_ble_eq_true rfl) ⟨Nat.zero_le _, Nat.zero_le _⟩ dX2_readClause_104 ?_
    obtain ⟨hz26, hf⟩ := bz_some hf
    rw [← Option.some.inj hf]
    exact r_zret (r := y24_0) C hr hlk hz26 dX2_readClause_107
  subst hZ
  refine r_aload_n C dX2_readClause_0 rfl 0 rfl ?_
  obtain ⟨y1, hy2, hf⟩ := bd_some hf
  refine r_roVE_i (As := []) (rest := []) C OP_OU hE (c_X2_wordHere l D cyI cyZ cyW a_this a_this_text a_this_draft v_this_clauses v_this_start v_this_end a_this_text_letters v_this_text_length v_this_text_letters y1 hy2) gX2_readClause_X2_wordHere rfl hyV_X2_wordHere ⟨rfl, rfl, (Nat.le_of_ble_eq_true rfl), (Nat.le_of_ble_eq_true rfl)⟩ rfl 0 rfl rfl [0, 1, 2] rfl rfl rfl (Nat.le_of_ble_eq_true rfl) ⟨Nat.zero_le _, Nat.zero_le _⟩ dX2_readClause_1 ?_
  refine r_istore_n (lv' := [(1, .int y1), (0, .ref a_this)]) C dX2_readClause_4 rfl (by decide) rfl ?_
  refine r_iload_n C dX2_readClause_5 rfl 0 rfl ?_
  refine r_iconst C (-1) dX2_readClause_6 (by decide) ?_
  refine r_icmp_eq C 18 dX2_readClause_7 (by decide) hf (fun hf => ?_) (fun hf => ?_)
  · refine r_iconst C 0 dX2_readClause_18 (by decide) ?_
    rw [← Option.some.inj hf]
    exact r_zret (r := 0) C hr hlk rfl dX2_readClause_19
  · refine r_aload_n C dX2_readClause_10 rfl 1 rfl ?_
    refine r_iload_n C dX2_readClause_11 rfl 0 rfl ?_
    obtain ⟨y3, hy4, hf⟩ := bd_some hf
    refine r_roV_i (As := [.int y1]) (rest := []) C (c_X2_hasRoomFor l D cyI cyZ cyW a_this a_this_text a_this_draft v_this_clauses v_this_start v_this_end v_this_draft_families v_this_draft_quota v_this_draft_coldCount a_this_draft_kinds a_this_draft_warmths a_this_draft_prices a_this_draft_favourers a_this_draft_colds y1 y3 hy4) gX2_readClause_X2_hasRoomFor rfl hyV_X2_hasRoomFor ⟨rfl, rfl, (Nat.le_of_ble_eq_true rfl), (Nat.le_of_ble_eq_true rfl)⟩ rfl 0 rfl rfl [0, 3] rfl rfl rfl (Nat.le_of_ble_eq_true rfl) ⟨Nat.zero_le _, Nat.zero_le _⟩ dX2_readClause_12 ?_
    refine r_if_ne C 20 dX2_readClause_15 (by decide) hf (fun hf => ?_) (fun hf => ?_)
    · refine r_aload_n C dX2_readClause_20 rfl 1 rfl ?_
      obtain ⟨y5_0, y5_1, hy6, hf⟩ := bd2_some hf
      refine r_callV_v (As := []) (rest := []) (ws' := (w_X2_readClause cyI cyZ cyW a_this a_this_text a_this_draft v_this_clauses y5_0 y5_1 a_this_text_letters v_this_text_length v_this_text_letters v_this_draft_families v_this_draft_quota v_this_draft_coldCount a_this_draft_kinds a_this_draft_warmths a_this_draft_prices a_this_draft_favourers a_this_draft_colds v_this_draft_colds v_this_draft_kinds v_this_draft_warmths v_this_draft_prices v_this_draft_favourers)) C (c_X2_next l D cyI cyZ cyW a_this a_this_text a_this_draft v_this_clauses v_this_start v_this_end a_this_text_letters v_this_text_length v_this_text_letters (y5_0, y5_1) hy6) gX2_readClause_X2_next rfl hyV_X2_next ⟨rfl, rfl, (Nat.le_of_ble_eq_true rfl), (Nat.le_of_ble_eq_true rfl)⟩ rfl 0 rfl rfl [0, 1, 2] rfl rfl rfl rfl rfl (Nat.le_of_ble_eq_true rfl) ⟨Nat.zero_le _, Nat.zero_le _⟩ dX2_readClause_21 ?_
      refine r_iload_n C dX2_readClause_24 rfl 0 rfl ?_
      rcases sw_ hf with ⟨hc7, hf⟩ | ⟨hc7, hf⟩
      · refine r_tableIn C 93 dX2_readClause_25 (by rw [hc7]; decide) (by rw [hc7]; decide) (by rw [hc7]; rfl) (by decide) ?_
        refine r_aload_n C dX2_readClause_93 rfl 1 rfl ?_
        refine r_iload_n C dX2_readClause_94 rfl 0 rfl ?_
        refine r_iconst C 4 dX2_readClause_95 (by decide) ?_
        refine r_icmp_ne C 103 dX2_readClause_96 (by decide) hf (fun hf => ?_) (fun hf => ?_)
        · refine r_iconst C 0 dX2_readClause_103 (by decide) ?_
          exact ST_lv [] rfl (hb_104 0 y5_0 y5_1 v_this_draft_families v_this_draft_quota v_this_draft_coldCount v_this_draft_colds v_this_draft_kinds v_this_draft_warmths v_this_draft_prices v_this_draft_favourers hf)
        · refine r_iconst C 1 dX2_readClause_99 (by decide) ?_
          refine r_goto C 104 dX2_readClause_100 (by decide) ?_
          exact ST_lv [] rfl (hb_104 1 y5_0 y5_1 v_this_draft_families v_this_draft_quota v_this_draft_coldCount v_this_draft_colds v_this_draft_kinds v_this_draft_warmths v_this_draft_prices v_this_draft_favourers hf)
      rcases sw_ hf with ⟨hc8, hf⟩ | ⟨hc8, hf⟩
      · refine r_tableIn C 93 dX2_readClause_25 (by rw [hc8]; decide) (by rw [hc8]; decide) (by rw [hc8]; rfl) (by decide) ?_
        refine r_aload_n C dX2_readClause_93 rfl 1 rfl ?_
        refine r_iload_n C dX2_readClause_94 rfl 0 rfl ?_
        refine r_iconst C 4 dX2_readClause_95 (by decide) ?_
        refine r_icmp_ne C 103 dX2_readClause_96 (by decide) hf (fun hf => ?_) (fun hf => ?_)
        · refine r_iconst C 0 dX2_readClause_103 (by decide) ?_
          exact ST_lv [] rfl (hb_104 0 y5_0 y5_1 v_this_draft_families v_this_draft_quota v_this_draft_coldCount v_this_draft_colds v_this_draft_kinds v_this_draft_warmths v_this_draft_prices v_this_draft_favourers hf)
        · refine r_iconst C 1 dX2_readClause_99 (by decide) ?_
          refine r_goto C 104 dX2_readClause_100 (by decide) ?_
          exact ST_lv [] rfl (hb_104 1 y5_0 y5_1 v_this_draft_families v_this_draft_quota v_this_draft_coldCount v_this_draft_colds v_this_draft_kinds v_this_draft_warmths v_this_draft_prices v_this_draft_favourers hf)
      rcases sw_ hf with ⟨hc12, hf⟩ | ⟨hc12, hf⟩
      · refine r_tableIn C 83 dX2_readClause_25 (by rw [hc12]; decide) (by rw [hc12]; decide) (by rw [hc12]; rfl) (by decide) ?_
        refine r_aload_n C dX2_readClause_83 rfl 1 rfl ?_
        obtain ⟨y9_0, y9_1, y9_2, y9_3, hy10, hf⟩ := bd4_some hf
        refine r_callV_i (As := []) (rest := []) (ws' := (w_X2_readClause cyI cyZ cyW a_this a_this_text a_this_draft v_this_clauses y9_1 y9_2 a_this_text_letters v_this_text_length v_this_text_letters v_this_draft_families y9_3 v_this_draft_coldCount a_this_draft_kinds a_this_draft_warmths a_this_draft_prices a_this_draft_favourers a_this_draft_colds v_this_draft_colds v_this_draft_kinds v_this_draft_warmths v_this_draft_prices v_this_draft_favourers)) C (c_X2_readQuota l D cyI cyZ cyW a_this a_this_text a_this_draft v_this_clauses y5_0 y5_1 a_this_text_letters v_this_text_length v_this_text_letters v_this_draft_families v_this_draft_quota v_this_draft_coldCount a_this_draft_kinds a_this_draft_warmths a_this_draft_prices a_this_draft_favourers a_this_draft_colds (y9_0, y9_1, y9_2, y9_3) hy10) gX2_readClause_X2_readQuota rfl hyV_X2_readQuota ⟨rfl, rfl, (Nat.le_of_ble_eq_true rfl), (Nat.le_of_ble_eq_true rfl)⟩ rfl 0 rfl rfl [0, 1, 2, 3] rfl rfl rfl rfl rfl (Nat.le_of_ble_eq_true rfl) ⟨Nat.zero_le _, Nat.zero_le _⟩ dX2_readClause_84 ?_
        obtain ⟨hz11, hf⟩ := bz_some hf
        rw [← Option.some.inj hf]
        exact r_zret (r := y9_0) C hr hlk hz11 dX2_readClause_87
      rcases sw_ hf with ⟨hc16, hf⟩ | ⟨hc16, hf⟩
      · refine r_tableIn C 88 dX2_readClause_25 (by rw [hc16]; decide) (by rw [hc16]; decide) (by rw [hc16]; rfl) (by decide) ?_
        refine r_aload_n C dX2_readClause_88 rfl 1 rfl ?_
        obtain ⟨y13_0, y13_1, y13_2, y13_3, y13_4, hy14, hf⟩ := bd5_some hf
        refine r_callV_i (As := []) (rest := []) (ws' := (w_X2_readClause cyI cyZ cyW a_this a_this_text a_this_draft v_this_clauses y13_1 y13_2 a_this_text_letters v_this_text_length v_this_text_letters v_this_draft_families v_this_draft_quota y13_3 a_this_draft_kinds a_this_draft_warmths a_this_draft_prices a_this_draft_favourers a_this_draft_colds y13_4 v_this_draft_kinds v_this_draft_warmths v_this_draft_prices v_this_draft_favourers)) C (c_X2_readCold l D cyI cyZ cyW a_this a_this_text a_this_draft v_this_clauses y5_0 y5_1 a_this_text_letters v_this_text_length v_this_text_letters v_this_draft_families v_this_draft_quota v_this_draft_coldCount a_this_draft_kinds a_this_draft_warmths a_this_draft_prices a_this_draft_favourers a_this_draft_colds v_this_draft_colds (y13_0, y13_1, y13_2, y13_3, y13_4) hy14) gX2_readClause_X2_readCold rfl hyV_X2_readCold ⟨rfl, rfl, (Nat.le_of_ble_eq_true rfl), (Nat.le_of_ble_eq_true rfl)⟩ rfl 0 rfl rfl [0, 1, 2, 3, 4] rfl rfl rfl rfl rfl (Nat.le_of_ble_eq_true rfl) ⟨Nat.zero_le _, Nat.zero_le _⟩ dX2_readClause_89 ?_
        obtain ⟨hz15, hf⟩ := bz_some hf
        rw [← Option.some.inj hf]
        exact r_zret (r := y13_0) C hr hlk hz15 dX2_readClause_92
      rcases sw_ hf with ⟨hc17, hf⟩ | ⟨hc17, hf⟩
      · refine r_tableIn C 73 dX2_readClause_25 (by rw [hc17]; decide) (by rw [hc17]; decide) (by rw [hc17]; rfl) (by decide) ?_
        refine r_aload_n C dX2_readClause_73 rfl 1 rfl ?_
        refine r_get C in_X2_readClause_X2 0 rfl rfl 1 (by decide) lk_X2_readClause_1 rfl rfl dX2_readClause_74 ?_
        refine r_iconst C 0 dX2_readClause_77 (by decide) ?_
        refine r_put (ws' := (w_X2_readClause cyI cyZ cyW a_this a_this_text a_this_draft v_this_clauses y5_0 y5_1 a_this_text_letters v_this_text_length v_this_text_letters v_this_draft_families v_this_draft_quota 0 a_this_draft_kinds a_this_draft_warmths a_this_draft_prices a_this_draft_favourers a_this_draft_colds v_this_draft_colds v_this_draft_kinds v_this_draft_warmths v_this_draft_prices v_this_draft_favourers)) C in_X2_readClause_X5 tyX5 tyX5_ok nmX5 3 rfl rfl 2 (by decide) lk_X2_readClause_2 rfl rfl rfl rfl (Nat.le_of_ble_eq_true rfl) rfl dX2_readClause_78 ?_
        refine r_iconst C 1 dX2_readClause_81 (by decide) ?_
        rw [← Option.some.inj hf]
        exact r_zret (r := 1) C hr hlk rfl dX2_readClause_82
      rcases sw_ hf with ⟨hc20, hf⟩ | ⟨hc20, hf⟩
      · refine r_tableIn C 64 dX2_readClause_25 (by rw [hc20]; decide) (by rw [hc20]; decide) (by rw [hc20]; rfl) (by decide) ?_
        refine r_aload_n C dX2_readClause_64 rfl 1 rfl ?_
        refine r_get C in_X2_readClause_X2 0 rfl rfl 1 (by decide) lk_X2_readClause_1 rfl rfl dX2_readClause_65 ?_
        obtain ⟨y18_0, y18_1, y18_2, hy19, hf⟩ := bd3_some hf
        refine r_callV_v (As := []) (rest := []) (ws' := (w_X2_readClause cyI cyZ cyW a_this a_this_text a_this_draft v_this_clauses y5_0 y5_1 a_this_text_letters v_this_text_length v_this_text_letters y18_0 y18_1 y18_2 a_this_draft_kinds a_this_draft_warmths a_this_draft_prices a_this_draft_favourers a_this_draft_colds v_this_draft_colds v_this_draft_kinds v_this_draft_warmths v_this_draft_prices v_this_draft_favourers)) C (c_X5_clear l D cyI cyZ cyW a_this_draft v_this_draft_families v_this_draft_quota v_this_draft_coldCount a_this_draft_kinds a_this_draft_warmths a_this_draft_prices a_this_draft_favourers a_this_draft_colds (y18_0, y18_1, y18_2) hy19) gX2_readClause_X5_clear rfl hyV_X5_clear ⟨rfl, rfl, (Nat.le_of_ble_eq_true rfl), (Nat.le_of_ble_eq_true rfl)⟩ rfl 3 rfl rfl [3] rfl rfl rfl rfl rfl (Nat.le_of_ble_eq_true rfl) ⟨Nat.zero_le _, Nat.zero_le _⟩ dX2_readClause_68 ?_
        refine r_iconst C 1 dX2_readClause_71 (by decide) ?_
        rw [← Option.some.inj hf]
        exact r_zret (r := 1) C hr hlk rfl dX2_readClause_72
      have hc7 := ne_toInt hc7 (z := 4) (by decide)
      have hc8 := ne_toInt hc8 (z := 5) (by decide)
      have hc12 := ne_toInt hc12 (z := 6) (by decide)
      have hc16 := ne_toInt hc16 (z := 7) (by decide)
      have hc17 := ne_toInt hc17 (z := 8) (by decide)
      have hc20 := ne_toInt hc20 (z := 9) (by decide)
      refine r_tableOut C 108 dX2_readClause_25 (by omega) (by decide) ?_
      refine r_aload_n C dX2_readClause_108 rfl 1 rfl ?_
      refine r_iload_n C dX2_readClause_109 rfl 0 rfl ?_
      obtain ⟨y21_0, y21_1, y21_2, y21_3, y21_4, y21_5, y21_6, y21_7, hy22, hf⟩ := bd8_some hf
      refine r_callV_i (As := [.int y1]) (rest := []) (ws' := (w_X2_readClause cyI cyZ cyW a_this a_this_text a_this_draft v_this_clauses y21_1 y21_2 a_this_text_letters v_this_text_length v_this_text_letters y21_3 v_this_draft_quota v_this_draft_coldCount a_this_draft_kinds a_this_draft_warmths a_this_draft_prices a_this_draft_favourers a_this_draft_colds v_this_draft_colds y21_4 y21_5 y21_6 y21_7)) C (c_X2_readButton l D cyI cyZ cyW a_this a_this_text a_this_draft v_this_clauses y5_0 y5_1 a_this_text_letters v_this_text_length v_this_text_letters v_this_draft_families v_this_draft_quota v_this_draft_coldCount a_this_draft_kinds a_this_draft_warmths a_this_draft_prices a_this_draft_favourers a_this_draft_colds v_this_draft_kinds v_this_draft_warmths v_this_draft_prices v_this_draft_favourers y1 (y21_0, y21_1, y21_2, y21_3, y21_4, y21_5, y21_6, y21_7) hy22) gX2_readClause_X2_readButton rfl hyV_X2_readButton ⟨rfl, rfl, (Nat.le_of_ble_eq_true rfl), (Nat.le_of_ble_eq_true rfl)⟩ rfl 0 rfl rfl [0, 1, 2, 3, 5, 6, 7, 8] rfl rfl rfl rfl rfl (Nat.le_of_ble_eq_true rfl) ⟨Nat.zero_le _, Nat.zero_le _⟩ dX2_readClause_110 ?_
      obtain ⟨hz23, hf⟩ := bz_some hf
      rw [← Option.some.inj hf]
      exact r_zret (r := y21_0) C hr hlk hz23 dX2_readClause_113
    · refine r_iconst C 0 dX2_readClause_18 (by decide) ?_
      rw [← Option.some.inj hf]
      exact r_zret (r := 0) C hr hlk rfl dX2_readClause_19

theorem lk_X2_read_1 : Cond.fieldLink RX2 21 "ParishCoat$Reader" "draft" "LParishCoat$Told;" ∈ wsX2_read := List.mem_of_getElem? (i := 1) rfl
theorem lk_X2_read_2 : Cond.fieldLink RX2 29 "ParishCoat$Reader" "end" "I" ∈ wsX2_read := List.mem_of_getElem? (i := 2) rfl
theorem lk_X2_read_3 : Cond.fieldLink RX2 36 "ParishCoat$Reader" "clauses" "I" ∈ wsX2_read := List.mem_of_getElem? (i := 3) rfl
theorem lk_X2_read_4 : Cond.fieldLink RX2 43 "ParishCoat$Reader" "start" "I" ∈ wsX2_read := List.mem_of_getElem? (i := 4) rfl
theorem lk_X2_read_5 : Cond.fieldLink RX2 12 "ParishCoat$Reader" "text" "LParishCoat$Letters;" ∈ wsX2_read := List.mem_of_getElem? (i := 5) rfl
theorem lk_X2_read_6 : Cond.fieldLink RX2 46 "ParishCoat$Letters" "length" "I" ∈ wsX2_read := List.mem_of_getElem? (i := 6) rfl
theorem in_X2_read_X0 : ∀ w ∈ u_ws RX0 TX0 2, w ∈ wsX2_read := fun _ h => List.mem_cons_of_mem _ (List.mem_append_left _ (List.mem_append_right _ h))
theorem in_X2_read_X2 : ∀ w ∈ u_ws RX2 TX2 5, w ∈ wsX2_read := fun _ h => List.mem_cons_of_mem _ (List.mem_append_left _ (List.mem_append_left _ (List.mem_append_right _ h)))
theorem hyV_X5_copyFrom : yX5_copyFrom.cls = RX5 ∧ yX5_copyFrom.cls ≠ "java/lang/invoke/MethodHandle" ∧ yX5_copyFrom.cls ≠ "java/lang/invoke/VarHandle" ∧ (parseMethodDescriptor yX5_copyFrom.desc).map (fun d => d.parameters.length) = some 1 := by decide +kernel
theorem hyS_X5_copyFrom : yX5_copyFrom.cls ≠ "java/lang/invoke/MethodHandle" ∧ yX5_copyFrom.cls ≠ "java/lang/invoke/VarHandle" ∧ (parseMethodDescriptor yX5_copyFrom.desc).map (fun d => d.parameters.length) = some 1 := by decide +kernel
theorem hyV_X2_readClause : yX2_readClause.cls = RX2 ∧ yX2_readClause.cls ≠ "java/lang/invoke/MethodHandle" ∧ yX2_readClause.cls ≠ "java/lang/invoke/VarHandle" ∧ (parseMethodDescriptor yX2_readClause.desc).map (fun d => d.parameters.length) = some 0 := by decide +kernel
theorem hyS_X2_readClause : yX2_readClause.cls ≠ "java/lang/invoke/MethodHandle" ∧ yX2_readClause.cls ≠ "java/lang/invoke/VarHandle" ∧ (parseMethodDescriptor yX2_readClause.desc).map (fun d => d.parameters.length) = some 0 := by decide +kernel
def f_X2_read_s22 (v_p0_families : Int32) (v_p0_quota : Int32) (v_p0_coldCount : Int32) (v_p0_kinds : Nat → Int32) (v_p0_warmths : Nat → Int32) (v_p0_prices : Nat → Int32) (v_p0_favourers : Nat → Int32) (v_p0_colds : Nat → Int32) (v_this_text_length : Int32) (v_this_text_letters : Nat → Int32) (k_22 : Int32 → Int32 → Int32 → Int32 → Int32 → Int32 → (Nat → Int32) → (Nat → Int32) → (Nat → Int32) → (Nat → Int32) → (Nat → Int32) → Option (Int32 × Int32 × Int32 × Int32 × Int32 × Int32 × Int32 × (Nat → Int32) × (Nat → Int32) × (Nat → Int32) × (Nat → Int32) × (Nat → Int32))) (v_this_clauses : Int32) (v_this_start : Int32) (v_this_end : Int32) (v_this_draft_families : Int32) (v_this_draft_quota : Int32) (v_this_draft_coldCount : Int32) (v_this_draft_kinds : Nat → Int32) (v_this_draft_warmths : Nat → Int32) (v_this_draft_prices : Nat → Int32) (v_this_draft_favourers : Nat → Int32) (v_this_draft_colds : Nat → Int32) : Option (Int32 × Int32 × Int32 × Int32 × Int32 × Int32 × Int32 × (Nat → Int32) × (Nat → Int32) × (Nat → Int32) × (Nat → Int32) × (Nat → Int32)) := if 14 < v_this_clauses then (some (v_this_start, v_this_clauses, v_this_start, v_this_end, v_this_draft_families, v_this_draft_quota, v_this_draft_coldCount, v_this_draft_kinds, v_this_draft_warmths, v_this_draft_prices, v_this_draft_favourers, v_this_draft_colds)) else (bd11 (f_X2_readClause v_this_start v_this_end v_this_text_length v_this_text_letters v_this_draft_families v_this_draft_quota v_this_draft_coldCount v_this_draft_colds v_this_draft_kinds v_this_draft_warmths v_this_draft_prices v_this_draft_favourers) (fun y5_0 y5_1 y5_2 y5_3 y5_4 y5_5 y5_6 y5_7 y5_8 y5_9 y5_10 => if y5_0 = 0 then (some (y5_1, v_this_clauses, y5_1, y5_2, y5_3, y5_4, y5_5, y5_7, y5_8, y5_9, y5_10, y5_6)) else (if y5_1 < v_this_text_length then ((f_X0_at v_this_text_length v_this_text_letters y5_1).bind fun y7 => if y7 = 59 then (if v_this_clauses = 14 then (some (y5_1, v_this_clauses, y5_1, y5_2, y5_3, y5_4, y5_5, y5_7, y5_8, y5_9, y5_10, y5_6)) else (bd2 (f_X2_next y5_1 y5_2 v_this_text_length v_this_text_letters) (fun y9_0 y9_1 => k_22 (v_this_clauses + 1) y9_0 y9_1 y5_3 y5_4 y5_5 y5_7 y5_8 y5_9 y5_10 y5_6))) else (some (y5_1, v_this_clauses, y5_1, y5_2, y5_3, y5_4, y5_5, y5_7, y5_8, y5_9, y5_10, y5_6))) else (some ((-1), v_this_clauses, y5_1, y5_2, y5_3, y5_4, y5_5, y5_7, y5_8, y5_9, y5_10, y5_6)))))
def f_X2_read_b22 (v_p0_families : Int32) (v_p0_quota : Int32) (v_p0_coldCount : Int32) (v_p0_kinds : Nat → Int32) (v_p0_warmths : Nat → Int32) (v_p0_prices : Nat → Int32) (v_p0_favourers : Nat → Int32) (v_p0_colds : Nat → Int32) (v_this_text_length : Int32) (v_this_text_letters : Nat → Int32) (n : Nat) : Int32 → Int32 → Int32 → Int32 → Int32 → Int32 → (Nat → Int32) → (Nat → Int32) → (Nat → Int32) → (Nat → Int32) → (Nat → Int32) → Option (Int32 × Int32 × Int32 × Int32 × Int32 × Int32 × Int32 × (Nat → Int32) × (Nat → Int32) × (Nat → Int32) × (Nat → Int32) × (Nat → Int32)) := it_ (f_X2_read_s22 v_p0_families v_p0_quota v_p0_coldCount v_p0_kinds v_p0_warmths v_p0_prices v_p0_favourers v_p0_colds v_this_text_length v_this_text_letters ) (fun _ _ _ _ _ _ _ _ _ _ _ => none) n
def f_X2_read (v_this_clauses : Int32) (v_this_start : Int32) (v_this_end : Int32) (v_p0_families : Int32) (v_p0_quota : Int32) (v_p0_coldCount : Int32) (v_this_draft_families : Int32) (v_this_draft_quota : Int32) (v_this_draft_coldCount : Int32) (v_p0_kinds : Nat → Int32) (v_this_draft_kinds : Nat → Int32) (v_p0_warmths : Nat → Int32) (v_this_draft_warmths : Nat → Int32) (v_p0_prices : Nat → Int32) (v_this_draft_prices : Nat → Int32) (v_p0_favourers : Nat → Int32) (v_this_draft_favourers : Nat → Int32) (v_p0_colds : Nat → Int32) (v_this_draft_colds : Nat → Int32) (v_this_text_length : Int32) (v_this_text_letters : Nat → Int32) : Option (Int32 × Int32 × Int32 × Int32 × Int32 × Int32 × Int32 × (Nat → Int32) × (Nat → Int32) × (Nat → Int32) × (Nat → Int32) × (Nat → Int32)) := bd8 (f_X5_copyFrom v_this_draft_families v_this_draft_quota v_this_draft_coldCount v_p0_families v_p0_quota v_p0_coldCount v_p0_kinds v_this_draft_kinds v_p0_warmths v_this_draft_warmths v_p0_prices v_this_draft_prices v_p0_favourers v_this_draft_favourers v_p0_colds v_this_draft_colds) (fun y1_0 y1_1 y1_2 y1_3 y1_4 y1_5 y1_6 y1_7 => bd2 (f_X2_next v_this_start 0 v_this_text_length v_this_text_letters) (fun y3_0 y3_1 => f_X2_read_b22 v_p0_families v_p0_quota v_p0_coldCount v_p0_kinds v_p0_warmths v_p0_prices v_p0_favourers v_p0_colds v_this_text_length v_this_text_letters 5000 1 y3_0 y3_1 y1_0 y1_1 y1_2 y1_3 y1_4 y1_5 y1_6 y1_7))
def w_X2_read (cyI cyZ cyW : ClassId) (a_this : Nat) (a_this_text : Nat) (a_this_draft : Nat) (v_this_clauses : Int32) (v_this_start : Int32) (v_this_end : Int32) (a_p0 : Nat) (v_p0_families : Int32) (v_p0_quota : Int32) (v_p0_coldCount : Int32) (a_p0_kinds : Nat) (a_p0_warmths : Nat) (a_p0_prices : Nat) (a_p0_favourers : Nat) (a_p0_colds : Nat) (v_this_draft_families : Int32) (v_this_draft_quota : Int32) (v_this_draft_coldCount : Int32) (a_this_draft_kinds : Nat) (a_this_draft_warmths : Nat) (a_this_draft_prices : Nat) (a_this_draft_favourers : Nat) (a_this_draft_colds : Nat) (v_p0_kinds : Nat → Int32) (v_this_draft_kinds : Nat → Int32) (v_p0_warmths : Nat → Int32) (v_this_draft_warmths : Nat → Int32) (v_p0_prices : Nat → Int32) (v_this_draft_prices : Nat → Int32) (v_p0_favourers : Nat → Int32) (v_this_draft_favourers : Nat → Int32) (v_p0_colds : Nat → Int32) (v_this_draft_colds : Nat → Int32) (a_this_text_letters : Nat) (v_this_text_length : Int32) (v_this_text_letters : Nat → Int32) : va_W := [(a_this, .inr (2, [.ref a_this_text, .ref a_this_draft, .int v_this_clauses, .int v_this_start, .int v_this_end])), (a_p0, .inr (5, [.int v_p0_families, .int v_p0_quota, .int v_p0_coldCount, .ref a_p0_kinds, .ref a_p0_warmths, .ref a_p0_prices, .ref a_p0_favourers, .ref a_p0_colds])), (a_this_draft, .inr (5, [.int v_this_draft_families, .int v_this_draft_quota, .int v_this_draft_coldCount, .ref a_this_draft_kinds, .ref a_this_draft_warmths, .ref a_this_draft_prices, .ref a_this_draft_favourers, .ref a_this_draft_colds])), (a_p0_kinds, .inl (cyI, 7, .inl v_p0_kinds)), (a_this_draft_kinds, .inl (cyI, 7, .inl v_this_draft_kinds)), (a_p0_warmths, .inl (cyI, 7, .inl v_p0_warmths)), (a_this_draft_warmths, .inl (cyI, 7, .inl v_this_draft_warmths)), (a_p0_prices, .inl (cyI, 7, .inl v_p0_prices)), (a_this_draft_prices, .inl (cyI, 7, .inl v_this_draft_prices)), (a_p0_favourers, .inl (cyI, 7, .inl v_p0_favourers)), (a_this_draft_favourers, .inl (cyI, 7, .inl v_this_draft_favourers)), (a_p0_colds, .inl (cyI, 6, .inl v_p0_colds)), (a_this_draft_colds, .inl (cyI, 6, .inl v_this_draft_colds)), (a_this_text, .inr (0, [.ref a_this_text_letters, .int v_this_text_length])), (a_this_text_letters, .inl (cyI, 160, .inl v_this_text_letters))]
set_option maxHeartbeats 4000000 in
set_option maxRecDepth 100000 in
theorem c_X2_read (l : Launch) (D : va_G) (cyI cyZ cyW : ClassId) (a_this : Nat) (a_this_text : Nat) (a_this_draft : Nat) (v_this_clauses : Int32) (v_this_start : Int32) (v_this_end : Int32) (a_p0 : Nat) (v_p0_families : Int32) (v_p0_quota : Int32) (v_p0_coldCount : Int32) (a_p0_kinds : Nat) (a_p0_warmths : Nat) (a_p0_prices : Nat) (a_p0_favourers : Nat) (a_p0_colds : Nat) (v_this_draft_families : Int32) (v_this_draft_quota : Int32) (v_this_draft_coldCount : Int32) (a_this_draft_kinds : Nat) (a_this_draft_warmths : Nat) (a_this_draft_prices : Nat) (a_this_draft_favourers : Nat) (a_this_draft_colds : Nat) (v_p0_kinds : Nat → Int32) (v_this_draft_kinds : Nat → Int32) (v_p0_warmths : Nat → Int32) (v_this_draft_warmths : Nat → Int32) (v_p0_prices : Nat → Int32) (v_this_draft_prices : Nat → Int32) (v_p0_favourers : Nat → Int32) (v_this_draft_favourers : Nat → Int32) (v_p0_colds : Nat → Int32) (v_this_draft_colds : Nat → Int32) (a_this_text_letters : Nat) (v_this_text_length : Int32) (v_this_text_letters : Nat → Int32) (res : Int32 × Int32 × Int32 × Int32 × Int32 × Int32 × Int32 × (Nat → Int32) × (Nat → Int32) × (Nat → Int32) × (Nat → Int32) × (Nat → Int32)) (hf : f_X2_read v_this_clauses v_this_start v_this_end v_p0_families v_p0_quota v_p0_coldCount v_this_draft_families v_this_draft_quota v_this_draft_coldCount v_p0_kinds v_this_draft_kinds v_p0_warmths v_this_draft_warmths v_p0_prices v_this_draft_prices v_p0_favourers v_this_draft_favourers v_p0_colds v_this_draft_colds v_this_text_length v_this_text_letters = some res) : ∀ sz, Met l yX2_read wsX2_read { frames := 7, cells := 0, slots := 0, locals := 163 } (PCe D (tyG cyI cyZ cyW) OU [.ref a_this, .ref a_p0] (w_X2_read cyI cyZ cyW a_this a_this_text a_this_draft v_this_clauses v_this_start v_this_end a_p0 v_p0_families v_p0_quota v_p0_coldCount a_p0_kinds a_p0_warmths a_p0_prices a_p0_favourers a_p0_colds v_this_draft_families v_this_draft_quota v_this_draft_coldCount a_this_draft_kinds a_this_draft_warmths a_this_draft_prices a_this_draft_favourers a_this_draft_colds v_p0_kinds v_this_draft_kinds v_p0_warmths v_this_draft_warmths v_p0_prices v_this_draft_prices v_p0_favourers v_this_draft_favourers v_p0_colds v_this_draft_colds a_this_text_letters v_this_text_length v_this_text_letters) sz) (QI D (tyG cyI cyZ cyW) (w_X2_read cyI cyZ cyW a_this a_this_text a_this_draft v_this_clauses v_this_start v_this_end a_p0 v_p0_families v_p0_quota v_p0_coldCount a_p0_kinds a_p0_warmths a_p0_prices a_p0_favourers a_p0_colds v_this_draft_families v_this_draft_quota v_this_draft_coldCount a_this_draft_kinds a_this_draft_warmths a_this_draft_prices a_this_draft_favourers a_this_draft_colds v_p0_kinds v_this_draft_kinds v_p0_warmths v_this_draft_warmths v_p0_prices v_this_draft_prices v_p0_favourers v_this_draft_favourers v_p0_colds v_this_draft_colds a_this_text_letters v_this_text_length v_this_text_letters) sz res.1 (w_X2_read cyI cyZ cyW a_this a_this_text a_this_draft res.2.1 res.2.2.1 res.2.2.2.1 a_p0 v_p0_families v_p0_quota v_p0_coldCount a_p0_kinds a_p0_warmths a_p0_prices a_p0_favourers a_p0_colds res.2.2.2.2.1 res.2.2.2.2.2.1 res.2.2.2.2.2.2.1 a_this_draft_kinds a_this_draft_warmths a_this_draft_prices a_this_draft_favourers a_this_draft_colds v_p0_kinds res.2.2.2.2.2.2.2.1 v_p0_warmths res.2.2.2.2.2.2.2.2.1 v_p0_prices res.2.2.2.2.2.2.2.2.2.1 v_p0_favourers res.2.2.2.2.2.2.2.2.2.2.1 v_p0_colds res.2.2.2.2.2.2.2.2.2.2.2 a_this_text_letters v_this_text_length v_this_text_letters)) 0 0 (va_A (w_X2_read cyI cyZ cyW a_this a_this_text a_this_draft v_this_clauses v_this_start v_this_end a_p0 v_p0_families v_p0_quota v_p0_coldCount a_p0_kinds a_p0_warmths a_p0_prices a_p0_favourers a_p0_colds v_this_draft_families v_this_draft_quota v_this_draft_coldCount a_this_draft_kinds a_this_draft_warmths a_this_draft_prices a_this_draft_favourers a_this_draft_colds v_p0_kinds v_this_draft_kinds v_p0_warmths v_this_draft_warmths v_p0_prices v_this_draft_prices v_p0_favourers v_this_draft_favourers v_p0_colds v_this_draft_colds a_this_text_letters v_this_text_length v_this_text_letters) sz) := by
  intro sz
  refine met_ofE (cc := cX2_read) (maxL := 2) (ret := (some .int)) (lv0 := [(0, .ref a_this), (1, .ref a_p0)]) (by decide) rfl ⟨(Nat.le_of_ble_eq_true rfl), rfl⟩ ?_
  intro p e s m below meth c C hE hr hlk hnm hsz
  subst hsz
  have C : CX p s m _ c 2 cX2_read RX2 wsX2_read D (tyG cyI cyZ cyW) _ := C
  obtain ⟨Z, hZ⟩ : ∃ Z : va_W → Nat → LV → List Value → Prop, Z = ST p l e { frames := 7, cells := 0, slots := 0, locals := 163 } s m [.ref a_this, .ref a_p0].toArray below meth c 2 D (va_A (w_X2_read cyI cyZ cyW a_this a_this_text a_this_draft v_this_clauses v_this_start v_this_end a_p0 v_p0_families v_p0_quota v_p0_coldCount a_p0_kinds a_p0_warmths a_p0_prices a_p0_favourers a_p0_colds v_this_draft_families v_this_draft_quota v_this_draft_coldCount a_this_draft_kinds a_this_draft_warmths a_this_draft_prices a_this_draft_favourers a_this_draft_colds v_p0_kinds v_this_draft_kinds v_p0_warmths v_this_draft_warmths v_p0_prices v_this_draft_prices v_p0_favourers v_this_draft_favourers v_p0_colds v_this_draft_colds a_this_text_letters v_this_text_length v_this_text_letters) s.heap.size) (MQ below (QI D (tyG cyI cyZ cyW) (w_X2_read cyI cyZ cyW a_this a_this_text a_this_draft v_this_clauses v_this_start v_this_end a_p0 v_p0_families v_p0_quota v_p0_coldCount a_p0_kinds a_p0_warmths a_p0_prices a_p0_favourers a_p0_colds v_this_draft_families v_this_draft_quota v_this_draft_coldCount a_this_draft_kinds a_this_draft_warmths a_this_draft_prices a_this_draft_favourers a_this_draft_colds v_p0_kinds v_this_draft_kinds v_p0_warmths v_this_draft_warmths v_p0_prices v_this_draft_prices v_p0_favourers v_this_draft_favourers v_p0_colds v_this_draft_colds a_this_text_letters v_this_text_length v_this_text_letters) s.heap.size res.1 (w_X2_read cyI cyZ cyW a_this a_this_text a_this_draft res.2.1 res.2.2.1 res.2.2.2.1 a_p0 v_p0_families v_p0_quota v_p0_coldCount a_p0_kinds a_p0_warmths a_p0_prices a_p0_favourers a_p0_colds res.2.2.2.2.1 res.2.2.2.2.2.1 res.2.2.2.2.2.2.1 a_this_draft_kinds a_this_draft_warmths a_this_draft_prices a_this_draft_favourers a_this_draft_colds v_p0_kinds res.2.2.2.2.2.2.2.1 v_p0_warmths res.2.2.2.2.2.2.2.2.1 v_p0_prices res.2.2.2.2.2.2.2.2.2.1 v_p0_favourers res.2.2.2.2.2.2.2.2.2.2.1 v_p0_colds res.2.2.2.2.2.2.2.2.2.2.2 a_this_text_letters v_this_text_length v_this_text_letters)) [.ref a_this, .ref a_p0].toArray s 0 0 (va_A (w_X2_read cyI cyZ cyW a_this a_this_text a_this_draft v_this_clauses v_this_start v_this_end a_p0 v_p0_families v_p0_quota v_p0_coldCount a_p0_kinds a_p0_warmths a_p0_prices a_p0_favourers a_p0_colds v_this_draft_families v_this_draft_quota v_this_draft_coldCount a_this_draft_kinds a_this_draft_warmths a_this_draft_prices a_this_draft_favourers a_this_draft_colds v_p0_kinds v_this_draft_kinds v_p0_warmths v_this_draft_warmths v_p0_prices v_this_draft_prices v_p0_favourers v_this_draft_favourers v_p0_colds v_this_draft_colds a_this_text_letters v_this_text_length v_this_text_letters) s.heap.size)) 0 0 := ⟨_, rfl⟩
  have hs_22 : ∀ (k_22 : Int32 → Int32 → Int32 → Int32 → Int32 → Int32 → (Nat → Int32) → (Nat → Int32) → (Nat → Int32) → (Nat → Int32) → (Nat → Int32) → Option (Int32 × Int32 × Int32 × Int32 × Int32 × Int32 × Int32 × (Nat → Int32) × (Nat → Int32) × (Nat → Int32) × (Nat → Int32) × (Nat → Int32))), (∀ (v_this_clauses : Int32) (v_this_start : Int32) (v_this_end : Int32) (v_this_draft_families : Int32) (v_this_draft_quota : Int32) (v_this_draft_coldCount : Int32) (v_this_draft_kinds : Nat → Int32) (v_this_draft_warmths : Nat → Int32) (v_this_draft_prices : Nat → Int32) (v_this_draft_favourers : Nat → Int32) (v_this_draft_colds : Nat → Int32), k_22 v_this_clauses v_this_start v_this_end v_this_draft_families v_this_draft_quota v_this_draft_coldCount v_this_draft_kinds v_this_draft_warmths v_this_draft_prices v_this_draft_favourers v_this_draft_colds = some res → Z (w_X2_read cyI cyZ cyW a_this a_this_text a_this_draft v_this_clauses v_this_start v_this_end a_p0 v_p0_families v_p0_quota v_p0_coldCount a_p0_kinds a_p0_warmths a_p0_prices a_p0_favourers a_p0_colds v_this_draft_families v_this_draft_quota v_this_draft_coldCount a_this_draft_kinds a_this_draft_warmths a_this_draft_prices a_this_draft_favourers a_this_draft_colds v_p0_kinds v_this_draft_kinds v_p0_warmths v_this_draft_warmths v_p0_prices v_this_draft_prices v_p0_favourers v_this_draft_favourers v_p0_colds v_this_draft_colds a_this_text_letters v_this_text_length v_this_text_letters) 22 [(0, .ref a_this)] []) → ∀ (v_this_clauses : Int32) (v_this_start : Int32) (v_this_end : Int32) (v_this_draft_families : Int32) (v_this_draft_quota : Int32) (v_this_draft_coldCount : Int32) (v_this_draft_kinds : Nat → Int32) (v_this_draft_warmths : Nat → Int32) (v_this_draft_prices : Nat → Int32) (v_this_draft_favourers : Nat → Int32) (v_this_draft_colds : Nat → Int32), f_X2_read_s22 v_p0_families v_p0_quota v_p0_coldCount v_p0_kinds v_p0_warmths v_p0_prices v_p0_favourers v_p0_colds v_this_text_length v_this_text_letters k_22 v_this_clauses v_this_start v_this_end v_this_draft_families v_this_draft_quota v_this_draft_coldCount v_this_draft_kinds v_this_draft_warmths v_this_draft_prices v_this_draft_favourers v_this_draft_colds = some res → Z (w_X2_read cyI cyZ cyW a_this a_this_text a_this_draft v_this_clauses v_this_start v_this_end a_p0 v_p0_families v_p0_quota v_p0_coldCount a_p0_kinds a_p0_warmths a_p0_prices a_p0_favourers a_p0_colds v_this_draft_families v_this_draft_quota v_this_draft_coldCount a_this_draft_kinds a_this_draft_warmths a_this_draft_prices a_this_draft_favourers a_this_draft_colds v_p0_kinds v_this_draft_kinds v_p0_warmths v_this_draft_warmths v_p0_prices v_this_draft_prices v_p0_favourers v_this_draft_favourers v_p0_colds v_this_draft_colds a_this_text_letters v_this_text_length v_this_text_letters) 22 [(0, .ref a_this)] [] := by
    subst hZ
    intro k_22 hk_22 v_this_clauses v_this_start v_this_end v_this_draft_families v_this_draft_quota v_this_draft_coldCount v_this_draft_kinds v_this_draft_warmths v_this_draft_prices v_this_draft_favourers v_this_draft_colds hf
    refine r_aload_n C dX2_read_22 rfl 0 rfl ?_
    refine r_get C in_X2_read_X2 0 rfl rfl 2 (by decide) lk_X2_read_3 rfl rfl dX2_read_23 ?_
    refine r_bipush C 14 dX2_read_26 (by decide) ?_
    refine r_icmp_gt C 106 dX2_read_28 (by decide) hf (fun hf => ?_) (fun hf => ?_)
    · refine r_aload_n C dX2_read_106 rfl 0 rfl ?_
      refine r_get C in_X2_read_X2 0 rfl rfl 3 (by decide) lk_X2_read_4 rfl rfl dX2_read_107 ?_
      rw [← Option.some.inj hf]
      exact r_iret C hr hlk dX2_read_110
    · refine r_aload_n C dX2_read_31 rfl 0 rfl ?_
      obtain ⟨y5_0, y5_1, y5_2, y5_3, y5_4, y5_5, y5_6, y5_7, y5_8, y5_9, y5_10, hy6, hf⟩ := bd11_some hf
      refine r_callVE_i (As := []) (rest := []) (ws' := (w_X2_read cyI cyZ cyW a_this a_this_text a_this_draft v_this_clauses y5_1 y5_2 a_p0 v_p0_families v_p0_quota v_p0_coldCount a_p0_kinds a_p0_warmths a_p0_prices a_p0_favourers a_p0_colds y5_3 y5_4 y5_5 a_this_draft_kinds a_this_draft_warmths a_this_draft_prices a_this_draft_favourers a_this_draft_colds v_p0_kinds y5_7 v_p0_warmths y5_8 v_p0_prices y5_9 v_p0_favourers y5_10 v_p0_colds y5_6 a_this_text_letters v_this_text_length v_this_text_letters)) C OP_OU hE (c_X2_readClause l D cyI cyZ cyW a_this a_this_text a_this_draft v_this_clauses v_this_start v_this_end a_this_text_letters v_this_text_length v_this_text_letters v_this_draft_families v_this_draft_quota v_this_draft_coldCount a_this_draft_kinds a_this_draft_warmths a_this_draft_prices a_this_draft_favourers a_this_draft_colds v_this_draft_colds v_this_draft_kinds v_this_draft_warmths v_this_draft_prices v_this_draft_favourers (y5_0, y5_1, y5_2, y5_3, y5_4, y5_5, y5_6, y5_7, y5_8, y5_9, y5_10) hy6) gX2_read_X2_readClause rfl hyV_X2_readClause ⟨rfl, rfl, (Nat.le_of_ble_eq_true rfl), (Nat.le_of_ble_eq_true rfl)⟩ rfl 0 rfl rfl [0, 13, 14, 2, 12, 4, 6, 8, 10] rfl rfl rfl rfl rfl (Nat.le_of_ble_eq_true rfl) ⟨Nat.zero_le _, Nat.zero_le _⟩ dX2_read_32 ?_
      refine r_if_ne C 43 dX2_read_35 (by decide) hf (fun hf => ?_) (fun hf => ?_)
      · refine r_aload_n C dX2_read_43 rfl 0 rfl ?_
        refine r_get C in_X2_read_X2 0 rfl rfl 3 (by decide) lk_X2_read_4 rfl rfl dX2_read_44 ?_
        refine r_aload_n C dX2_read_47 rfl 0 rfl ?_
        refine r_get C in_X2_read_X2 0 rfl rfl 0 (by decide) lk_X2_read_5 rfl rfl dX2_read_48 ?_
        refine r_get C in_X2_read_X0 13 rfl rfl 1 (by decide) lk_X2_read_6 rfl rfl dX2_read_51 ?_
        refine r_icmp_lt C 59 dX2_read_54 (by decide) hf (fun hf => ?_) (fun hf => ?_)
        · refine r_aload_n C dX2_read_59 rfl 0 rfl ?_
          refine r_get C in_X2_read_X2 0 rfl rfl 0 (by decide) lk_X2_read_5 rfl rfl dX2_read_60 ?_
          refine r_aload_n C dX2_read_63 rfl 0 rfl ?_
          refine r_get C in_X2_read_X2 0 rfl rfl 3 (by decide) lk_X2_read_4 rfl rfl dX2_read_64 ?_
          obtain ⟨y7, hy8, hf⟩ := bd_some hf
          refine r_roV_i (As := [.int y5_1]) (rest := []) C (c_X0_at l D cyI cyZ cyW a_this_text a_this_text_letters v_this_text_length v_this_text_letters y5_1 y7 hy8) gX2_read_X0_at rfl hyV_X0_at ⟨rfl, rfl, (Nat.le_of_ble_eq_true rfl), (Nat.le_of_ble_eq_true rfl)⟩ rfl 13 rfl rfl [13, 14] rfl rfl rfl (Nat.le_of_ble_eq_true rfl) ⟨Nat.zero_le _, Nat.zero_le _⟩ dX2_read_67 ?_
          refine r_bipush C 59 dX2_read_70 (by decide) ?_
          refine r_icmp_ne C 84 dX2_read_72 (by decide) hf (fun hf => ?_) (fun hf => ?_)
          · refine r_aload_n C dX2_read_84 rfl 0 rfl ?_
            refine r_get C in_X2_read_X2 0 rfl rfl 3 (by decide) lk_X2_read_4 rfl rfl dX2_read_85 ?_
            rw [← Option.some.inj hf]
            exact r_iret C hr hlk dX2_read_88
          · refine r_aload_n C dX2_read_75 rfl 0 rfl ?_
            refine r_get C in_X2_read_X2 0 rfl rfl 2 (by decide) lk_X2_read_3 rfl rfl dX2_read_76 ?_
            refine r_bipush C 14 dX2_read_79 (by decide) ?_
            refine r_icmp_ne C 89 dX2_read_81 (by decide) hf (fun hf => ?_) (fun hf => ?_)
            · refine r_aload_n C dX2_read_89 rfl 0 rfl ?_
              obtain ⟨y9_0, y9_1, hy10, hf⟩ := bd2_some hf
              refine r_callV_v (As := []) (rest := []) (ws' := (w_X2_read cyI cyZ cyW a_this a_this_text a_this_draft v_this_clauses y9_0 y9_1 a_p0 v_p0_families v_p0_quota v_p0_coldCount a_p0_kinds a_p0_warmths a_p0_prices a_p0_favourers a_p0_colds y5_3 y5_4 y5_5 a_this_draft_kinds a_this_draft_warmths a_this_draft_prices a_this_draft_favourers a_this_draft_colds v_p0_kinds y5_7 v_p0_warmths y5_8 v_p0_prices y5_9 v_p0_favourers y5_10 v_p0_colds y5_6 a_this_text_letters v_this_text_length v_this_text_letters)) C (c_X2_next l D cyI cyZ cyW a_this a_this_text a_this_draft v_this_clauses y5_1 y5_2 a_this_text_letters v_this_text_length v_this_text_letters (y9_0, y9_1) hy10) gX2_read_X2_next rfl hyV_X2_next ⟨rfl, rfl, (Nat.le_of_ble_eq_true rfl), (Nat.le_of_ble_eq_true rfl)⟩ rfl 0 rfl rfl [0, 13, 14] rfl rfl rfl rfl rfl (Nat.le_of_ble_eq_true rfl) ⟨Nat.zero_le _, Nat.zero_le _⟩ dX2_read_90 ?_
              refine r_aload_n C dX2_read_93 rfl 0 rfl ?_
              refine r_dup C dX2_read_94 rfl ?_
              refine r_get C in_X2_read_X2 0 rfl rfl 2 (by decide) lk_X2_read_3 rfl rfl dX2_read_95 ?_
              refine r_iconst C 1 dX2_read_98 (by decide) ?_
              refine r_iadd C dX2_read_99 ?_
              refine r_put (ws' := (w_X2_read cyI cyZ cyW a_this a_this_text a_this_draft (v_this_clauses + 1) y9_0 y9_1 a_p0 v_p0_families v_p0_quota v_p0_coldCount a_p0_kinds a_p0_warmths a_p0_prices a_p0_favourers a_p0_colds y5_3 y5_4 y5_5 a_this_draft_kinds a_this_draft_warmths a_this_draft_prices a_this_draft_favourers a_this_draft_colds v_p0_kinds y5_7 v_p0_warmths y5_8 v_p0_prices y5_9 v_p0_favourers y5_10 v_p0_colds y5_6 a_this_text_letters v_this_text_length v_this_text_letters)) C in_X2_read_X2 tyX2 tyX2_ok nmX2 0 rfl rfl 2 (by decide) lk_X2_read_3 rfl rfl rfl rfl (Nat.le_of_ble_eq_true rfl) rfl dX2_read_100 ?_
              refine r_goto C 22 dX2_read_103 (by decide) ?_
              exact ST_lv [0] rfl (hk_22 (v_this_clauses + 1) y9_0 y9_1 y5_3 y5_4 y5_5 y5_7 y5_8 y5_9 y5_10 y5_6 hf)
            · refine r_aload_n C dX2_read_84 rfl 0 rfl ?_
              refine r_get C in_X2_read_X2 0 rfl rfl 3 (by decide) lk_X2_read_4 rfl rfl dX2_read_85 ?_
              rw [← Option.some.inj hf]
              exact r_iret C hr hlk dX2_read_88
        · refine r_iconst C (-1) dX2_read_57 (by decide) ?_
          rw [← Option.some.inj hf]
          exact r_iret C hr hlk dX2_read_58
      · refine r_aload_n C dX2_read_38 rfl 0 rfl ?_
        refine r_get C in_X2_read_X2 0 rfl rfl 3 (by decide) lk_X2_read_4 rfl rfl dX2_read_39 ?_
        rw [← Option.some.inj hf]
        exact r_iret C hr hlk dX2_read_42
  have hb_22 : ∀ (n : Nat) (v_this_clauses : Int32) (v_this_start : Int32) (v_this_end : Int32) (v_this_draft_families : Int32) (v_this_draft_quota : Int32) (v_this_draft_coldCount : Int32) (v_this_draft_kinds : Nat → Int32) (v_this_draft_warmths : Nat → Int32) (v_this_draft_prices : Nat → Int32) (v_this_draft_favourers : Nat → Int32) (v_this_draft_colds : Nat → Int32), f_X2_read_b22 v_p0_families v_p0_quota v_p0_coldCount v_p0_kinds v_p0_warmths v_p0_prices v_p0_favourers v_p0_colds v_this_text_length v_this_text_letters n v_this_clauses v_this_start v_this_end v_this_draft_families v_this_draft_quota v_this_draft_coldCount v_this_draft_kinds v_this_draft_warmths v_this_draft_prices v_this_draft_favourers v_this_draft_colds = some res → Z (w_X2_read cyI cyZ cyW a_this a_this_text a_this_draft v_this_clauses v_this_start v_this_end a_p0 v_p0_families v_p0_quota v_p0_coldCount a_p0_kinds a_p0_warmths a_p0_prices a_p0_favourers a_p0_colds v_this_draft_families v_this_draft_quota v_this_draft_coldCount a_this_draft_kinds a_this_draft_warmths a_this_draft_prices a_this_draft_favourers a_this_draft_colds v_p0_kinds v_this_draft_kinds v_p0_warmths v_this_draft_warmths v_p0_prices v_this_draft_prices v_p0_favourers v_this_draft_favourers v_p0_colds v_this_draft_colds a_this_text_letters v_this_text_length v_this_text_letters) 22 [(0, .ref a_this)] [] := by
    intro  n
    induction n with
    | zero => intro v_this_clauses v_this_start v_this_end v_this_draft_families v_this_draft_quota v_this_draft_coldCount v_this_draft_kinds v_this_draft_warmths v_this_draft_prices v_this_draft_favourers v_this_draft_colds hf; exact nn_ hf
    | succ n ih => exact fun v_this_clauses v_this_start v_this_end v_this_draft_families v_this_draft_quota v_this_draft_coldCount v_this_draft_kinds v_this_draft_warmths v_this_draft_prices v_this_draft_favourers v_this_draft_colds hf => hs_22 _ ih v_this_clauses v_this_start v_this_end v_this_draft_families v_this_draft_quota v_this_draft_coldCount v_this_draft_kinds v_this_draft_warmths v_this_draft_prices v_this_draft_favourers v_this_draft_colds hf
  subst hZ
  refine r_aload_n C dX2_read_0 rfl 0 rfl ?_
  refine r_get C in_X2_read_X2 0 rfl rfl 1 (by decide) lk_X2_read_1 rfl rfl dX2_read_1 ?_
  refine r_aload_n C dX2_read_4 rfl 1 rfl ?_
  obtain ⟨y1_0, y1_1, y1_2, y1_3, y1_4, y1_5, y1_6, y1_7, hy2, hf⟩ := bd8_some hf
  refine r_callV_v (As := [.ref a_p0]) (rest := []) (ws' := (w_X2_read cyI cyZ cyW a_this a_this_text a_this_draft v_this_clauses v_this_start v_this_end a_p0 v_p0_families v_p0_quota v_p0_coldCount a_p0_kinds a_p0_warmths a_p0_prices a_p0_favourers a_p0_colds y1_0 y1_1 y1_2 a_this_draft_kinds a_this_draft_warmths a_this_draft_prices a_this_draft_favourers a_this_draft_colds v_p0_kinds y1_3 v_p0_warmths y1_4 v_p0_prices y1_5 v_p0_favourers y1_6 v_p0_colds y1_7 a_this_text_letters v_this_text_length v_this_text_letters)) C (c_X5_copyFrom l D cyI cyZ cyW a_this_draft v_this_draft_families v_this_draft_quota v_this_draft_coldCount a_this_draft_kinds a_this_draft_warmths a_this_draft_prices a_this_draft_favourers a_this_draft_colds a_p0 v_p0_families v_p0_quota v_p0_coldCount a_p0_kinds a_p0_warmths a_p0_prices a_p0_favourers a_p0_colds v_p0_kinds v_this_draft_kinds v_p0_warmths v_this_draft_warmths v_p0_prices v_this_draft_prices v_p0_favourers v_this_draft_favourers v_p0_colds v_this_draft_colds (y1_0, y1_1, y1_2, y1_3, y1_4, y1_5, y1_6, y1_7) hy2) gX2_read_X5_copyFrom rfl hyV_X5_copyFrom ⟨rfl, rfl, (Nat.le_of_ble_eq_true rfl), (Nat.le_of_ble_eq_true rfl)⟩ rfl 2 rfl rfl [2, 1, 3, 4, 5, 6, 7, 8, 9, 10, 11, 12] rfl rfl rfl rfl rfl (Nat.le_of_ble_eq_true rfl) ⟨Nat.zero_le _, Nat.zero_le _⟩ dX2_read_5 ?_
  refine r_aload_n C dX2_read_8 rfl 0 rfl ?_
  refine r_iconst C 0 dX2_read_9 (by decide) ?_
  refine r_put (ws' := (w_X2_read cyI cyZ cyW a_this a_this_text a_this_draft v_this_clauses v_this_start 0 a_p0 v_p0_families v_p0_quota v_p0_coldCount a_p0_kinds a_p0_warmths a_p0_prices a_p0_favourers a_p0_colds y1_0 y1_1 y1_2 a_this_draft_kinds a_this_draft_warmths a_this_draft_prices a_this_draft_favourers a_this_draft_colds v_p0_kinds y1_3 v_p0_warmths y1_4 v_p0_prices y1_5 v_p0_favourers y1_6 v_p0_colds y1_7 a_this_text_letters v_this_text_length v_this_text_letters)) C in_X2_read_X2 tyX2 tyX2_ok nmX2 0 rfl rfl 4 (by decide) lk_X2_read_2 rfl rfl rfl rfl (Nat.le_of_ble_eq_true rfl) rfl dX2_read_10 ?_
  refine r_aload_n C dX2_read_13 rfl 0 rfl ?_
  obtain ⟨y3_0, y3_1, hy4, hf⟩ := bd2_some hf
  refine r_callV_v (As := []) (rest := []) (ws' := (w_X2_read cyI cyZ cyW a_this a_this_text a_this_draft v_this_clauses y3_0 y3_1 a_p0 v_p0_families v_p0_quota v_p0_coldCount a_p0_kinds a_p0_warmths a_p0_prices a_p0_favourers a_p0_colds y1_0 y1_1 y1_2 a_this_draft_kinds a_this_draft_warmths a_this_draft_prices a_this_draft_favourers a_this_draft_colds v_p0_kinds y1_3 v_p0_warmths y1_4 v_p0_prices y1_5 v_p0_favourers y1_6 v_p0_colds y1_7 a_this_text_letters v_this_text_length v_this_text_letters)) C (c_X2_next l D cyI cyZ cyW a_this a_this_text a_this_draft v_this_clauses v_this_start 0 a_this_text_letters v_this_text_length v_this_text_letters (y3_0, y3_1) hy4) gX2_read_X2_next rfl hyV_X2_next ⟨rfl, rfl, (Nat.le_of_ble_eq_true rfl), (Nat.le_of_ble_eq_true rfl)⟩ rfl 0 rfl rfl [0, 13, 14] rfl rfl rfl rfl rfl (Nat.le_of_ble_eq_true rfl) ⟨Nat.zero_le _, Nat.zero_le _⟩ dX2_read_14 ?_
  refine r_aload_n C dX2_read_17 rfl 0 rfl ?_
  refine r_iconst C 1 dX2_read_18 (by decide) ?_
  refine r_put (ws' := (w_X2_read cyI cyZ cyW a_this a_this_text a_this_draft 1 y3_0 y3_1 a_p0 v_p0_families v_p0_quota v_p0_coldCount a_p0_kinds a_p0_warmths a_p0_prices a_p0_favourers a_p0_colds y1_0 y1_1 y1_2 a_this_draft_kinds a_this_draft_warmths a_this_draft_prices a_this_draft_favourers a_this_draft_colds v_p0_kinds y1_3 v_p0_warmths y1_4 v_p0_prices y1_5 v_p0_favourers y1_6 v_p0_colds y1_7 a_this_text_letters v_this_text_length v_this_text_letters)) C in_X2_read_X2 tyX2 tyX2_ok nmX2 0 rfl rfl 2 (by decide) lk_X2_read_3 rfl rfl rfl rfl (Nat.le_of_ble_eq_true rfl) rfl dX2_read_19 ?_
  exact ST_lv [0] rfl (hb_22 5000 1 y3_0 y3_1 y1_0 y1_1 y1_2 y1_3 y1_4 y1_5 y1_6 y1_7 hf)
