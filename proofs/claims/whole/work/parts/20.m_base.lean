def f_X9_in (x0 : Int64) (x2 : Int64) (x4 : Int64) : Option (Int32) := if (lg_cmp x0 x2) < 0 then (some (0)) else (if 0 < (lg_cmp x0 x4) then (some (0)) else (some (1)))
def w_X9_in (cyI cyZ cyW : ClassId) : va_W := []
set_option maxHeartbeats 4000000 in
set_option maxRecDepth 100000 in
theorem c_X9_in (l : Launch) (D : va_G) (cyI cyZ cyW : ClassId) (x0 : Int64) (x2 : Int64) (x4 : Int64) (res : Int32) (hf : f_X9_in x0 x2 x4 = some res) : ∀ sz, Met l yX9_in wsX9_in { frames := 0, cells := 0, slots := 0, locals := 0 } (PCx D (tyG cyI cyZ cyW) [.long x0, .long x2, .long x4] [] sz) (QI D (tyG cyI cyZ cyW) [] sz res []) 0 0 (va_A [] sz) := by
  intro sz
  refine met_of (cc := cX9_in) (maxL := 6) (ret := (some .boolean)) (lv0 := [(0, .long x0), (2, .long x2), (4, .long x4)]) (by decide) rfl ⟨(Nat.le_of_ble_eq_true rfl), rfl⟩ ?_
  intro p e s m below meth c C hr hlk hnm hsz
  subst hsz
  have C : CX p s m _ c 6 cX9_in RX9 wsX9_in D (tyG cyI cyZ cyW) _ := C
  refine r_lload_n C dX9_in_0 rfl 0 rfl ?_
  refine r_lload_n C dX9_in_1 rfl 1 rfl ?_
  refine r_lcmp C dX9_in_2 ?_
  refine r_if_lt C 17 dX9_in_3 (by decide) hf (fun hf => ?_) (fun hf => ?_)
  · refine r_iconst C 0 dX9_in_17 (by decide) ?_
    rw [← Option.some.inj hf]
    exact r_zret (r := 0) C hr hlk rfl dX9_in_18
  · refine r_lload_n C dX9_in_6 rfl 0 rfl ?_
    refine r_lload C dX9_in_7 2 rfl ?_
    refine r_lcmp C dX9_in_9 ?_
    refine r_if_gt C 17 dX9_in_10 (by decide) hf (fun hf => ?_) (fun hf => ?_)
    · refine r_iconst C 0 dX9_in_17 (by decide) ?_
      rw [← Option.some.inj hf]
      exact r_zret (r := 0) C hr hlk rfl dX9_in_18
    · refine r_iconst C 1 dX9_in_13 (by decide) ?_
      refine r_goto C 18 dX9_in_14 (by decide) ?_
      rw [← Option.some.inj hf]
      exact r_zret (r := 1) C hr hlk rfl dX9_in_18

def f_X9_has (x0 : Int32) (x1 : Int32) : Option (Int32) := if ((x0 >>> (x1 &&& 31)) &&& 1) = 1 then (some (1)) else (some (0))
def w_X9_has (cyI cyZ cyW : ClassId) : va_W := []
set_option maxHeartbeats 4000000 in
set_option maxRecDepth 100000 in
theorem c_X9_has (l : Launch) (D : va_G) (cyI cyZ cyW : ClassId) (x0 : Int32) (x1 : Int32) (res : Int32) (hf : f_X9_has x0 x1 = some res) : ∀ sz, Met l yX9_has wsX9_has { frames := 0, cells := 0, slots := 0, locals := 0 } (PCx D (tyG cyI cyZ cyW) [.int x0, .int x1] [] sz) (QI D (tyG cyI cyZ cyW) [] sz res []) 0 0 (va_A [] sz) := by
  intro sz
  refine met_of (cc := cX9_has) (maxL := 2) (ret := (some .boolean)) (lv0 := [(0, .int x0), (1, .int x1)]) (by decide) rfl ⟨(Nat.le_of_ble_eq_true rfl), rfl⟩ ?_
  intro p e s m below meth c C hr hlk hnm hsz
  subst hsz
  have C : CX p s m _ c 2 cX9_has RX9 wsX9_has D (tyG cyI cyZ cyW) _ := C
  refine r_iload_n C dX9_has_0 rfl 0 rfl ?_
  refine r_iload_n C dX9_has_1 rfl 1 rfl ?_
  refine r_ishr C dX9_has_2 ?_
  refine r_iconst C 1 dX9_has_3 (by decide) ?_
  refine r_iand C dX9_has_4 ?_
  refine r_iconst C 1 dX9_has_5 (by decide) ?_
  refine r_icmp_ne C 13 dX9_has_6 (by decide) hf (fun hf => ?_) (fun hf => ?_)
  · refine r_iconst C 0 dX9_has_13 (by decide) ?_
    rw [← Option.some.inj hf]
    exact r_zret (r := 0) C hr hlk rfl dX9_has_14
  · refine r_iconst C 1 dX9_has_9 (by decide) ?_
    refine r_goto C 14 dX9_has_10 (by decide) ?_
    rw [← Option.some.inj hf]
    exact r_zret (r := 1) C hr hlk rfl dX9_has_14

def f_X9_ones_s4 (k_4 : Int32 → Int32 → Option (Int32)) (x1 : Int32) (x2 : Int32) : Option (Int32) := if x2 = 0 then (some (x1)) else (k_4 (x1 + 1) (x2 &&& (x2 - 1)))
def f_X9_ones_b4 (n : Nat) : Int32 → Int32 → Option (Int32) := it_ (f_X9_ones_s4 ) (fun _ _ => none) n
def f_X9_ones (x0 : Int32) : Option (Int32) := f_X9_ones_b4 5000 0 x0
def w_X9_ones (cyI cyZ cyW : ClassId) : va_W := []
set_option maxHeartbeats 4000000 in
set_option maxRecDepth 100000 in
theorem c_X9_ones (l : Launch) (D : va_G) (cyI cyZ cyW : ClassId) (x0 : Int32) (res : Int32) (hf : f_X9_ones x0 = some res) : ∀ sz, Met l yX9_ones wsX9_ones { frames := 0, cells := 0, slots := 0, locals := 0 } (PCx D (tyG cyI cyZ cyW) [.int x0] [] sz) (QI D (tyG cyI cyZ cyW) [] sz res []) 0 0 (va_A [] sz) := by
  intro sz
  refine met_of (cc := cX9_ones) (maxL := 3) (ret := (some .int)) (lv0 := [(0, .int x0)]) (by decide) rfl ⟨(Nat.le_of_ble_eq_true rfl), rfl⟩ ?_
  intro p e s m below meth c C hr hlk hnm hsz
  subst hsz
  have C : CX p s m _ c 3 cX9_ones RX9 wsX9_ones D (tyG cyI cyZ cyW) _ := C
  obtain ⟨Z, hZ⟩ : ∃ Z : va_W → Nat → LV → List Value → Prop, Z = ST p l e { frames := 0, cells := 0, slots := 0, locals := 0 } s m [.int x0].toArray below meth c 3 D (va_A [] s.heap.size) (MQ below (QI D (tyG cyI cyZ cyW) [] s.heap.size res []) [.int x0].toArray s 0 0 (va_A [] s.heap.size)) 0 0 := ⟨_, rfl⟩
  have hs_4 : ∀ (k_4 : Int32 → Int32 → Option (Int32)), (∀ (x1 : Int32) (x2 : Int32), k_4 x1 x2 = some res → Z [] 4 [(1, .int x1), (2, .int x2)] []) → ∀ (x1 : Int32) (x2 : Int32), f_X9_ones_s4 k_4 x1 x2 = some res → Z [] 4 [(1, .int x1), (2, .int x2)] [] := by
    subst hZ
    intro k_4 hk_4 x1 x2 hf
    refine r_iload_n C dX9_ones_4 rfl 1 rfl ?_
    refine r_if_eq C 20 dX9_ones_5 (by decide) hf (fun hf => ?_) (fun hf => ?_)
    · refine r_iload_n C dX9_ones_20 rfl 0 rfl ?_
      rw [← Option.some.inj hf]
      exact r_iret C hr hlk dX9_ones_21
    · refine r_iinc (v := 1) (k := 0) (lv' := [(1, .int (x1 + 1)), (2, .int x2)]) C dX9_ones_8 rfl (by decide) (by decide) rfl ?_
      refine r_iload_n C dX9_ones_11 rfl 1 rfl ?_
      refine r_iload_n C dX9_ones_12 rfl 1 rfl ?_
      refine r_iconst C 1 dX9_ones_13 (by decide) ?_
      refine r_isub C dX9_ones_14 ?_
      refine r_iand C dX9_ones_15 ?_
      refine r_istore_n (lv' := [(2, .int (x2 &&& (x2 - 1))), (1, .int (x1 + 1))]) C dX9_ones_16 rfl (by decide) rfl ?_
      refine r_goto C 4 dX9_ones_17 (by decide) ?_
      exact ST_lv [1, 0] rfl (hk_4 (x1 + 1) (x2 &&& (x2 - 1)) hf)
  have hb_4 : ∀ (n : Nat) (x1 : Int32) (x2 : Int32), f_X9_ones_b4 n x1 x2 = some res → Z [] 4 [(1, .int x1), (2, .int x2)] [] := by
    intro  n
    induction n with
    | zero => intro x1 x2 hf; exact nn_ hf
    | succ n ih => exact fun x1 x2 hf => hs_4 _ ih x1 x2 hf
  subst hZ
  refine r_iconst C 0 dX9_ones_0 (by decide) ?_
  refine r_istore_n (lv' := [(1, .int 0), (0, .int x0)]) C dX9_ones_1 rfl (by decide) rfl ?_
  refine r_iload_n C dX9_ones_2 rfl 1 rfl ?_
  refine r_istore_n (lv' := [(2, .int x0), (1, .int 0), (0, .int x0)]) C dX9_ones_3 rfl (by decide) rfl ?_
  exact ST_lv [1, 0] rfl (hb_4 5000 0 x0 hf)

theorem lk_X9_isFamily_1 : Cond.fieldLink RX9 7 "ParishCoatModel" "told" "[I" ∈ wsX9_isFamily := List.mem_of_getElem? (i := 1) rfl
theorem in_X9_isFamily_X9 : ∀ w ∈ u_ws RX9 TX9 21, w ∈ wsX9_isFamily := fun _ h => List.mem_cons_of_mem _ (List.mem_append_right _ h)
theorem hyV_X9_in : yX9_in.cls = RX9 ∧ yX9_in.cls ≠ "java/lang/invoke/MethodHandle" ∧ yX9_in.cls ≠ "java/lang/invoke/VarHandle" ∧ (parseMethodDescriptor yX9_in.desc).map (fun d => d.parameters.length) = some 3 := by decide +kernel
theorem hyS_X9_in : yX9_in.cls ≠ "java/lang/invoke/MethodHandle" ∧ yX9_in.cls ≠ "java/lang/invoke/VarHandle" ∧ (parseMethodDescriptor yX9_in.desc).map (fun d => d.parameters.length) = some 3 := by decide +kernel
def f_X9_isFamily (v_this_told : Nat → Int32) (x1 : Int32) : Option (Int32) := (f_X9_in (Int32.toInt64 x1) 0 (Int32.toInt64 ((v_this_told 0) - 1))).bind fun y1 => bz_ y1 (some (y1))
def w_X9_isFamily (cyI cyZ cyW : ClassId) (a_this : Nat) (a_this_told : Nat) (a_this_st : Nat) (a_this_text : Nat) (v_this_letters : Int32) (v_this_place : Int32) (v_this_token : Int32) (v_this_value : Int32) (v_this_begins : Int32) (a_this_read : Nat) (v_this_clauses : Int32) (a_this_ahead : Nat) (v_this_undoMany : Int32) (a_this_isKept : Nat) (a_this_kept : Nat) (v_this_fewestMany : Int32) (v_this_fewestSets : Int32) (v_this_fewestSet : Int32) (v_this_fewestMost : Int32) (a_this_aside : Nat) (a_this_seens : Nat) (v_this_seenMany : Int32) (v_this_told : Nat → Int32) : va_W := [(a_this, .inr (9, [.ref a_this_told, .ref a_this_st, .ref a_this_text, .int v_this_letters, .int v_this_place, .int v_this_token, .int v_this_value, .int v_this_begins, .ref a_this_read, .int v_this_clauses, .ref a_this_ahead, .int v_this_undoMany, .ref a_this_isKept, .ref a_this_kept, .int v_this_fewestMany, .int v_this_fewestSets, .int v_this_fewestSet, .int v_this_fewestMost, .ref a_this_aside, .ref a_this_seens, .int v_this_seenMany])), (a_this_told, .inl (cyI, 37, .inl v_this_told))]
set_option maxHeartbeats 4000000 in
set_option maxRecDepth 100000 in
theorem c_X9_isFamily (l : Launch) (D : va_G) (cyI cyZ cyW : ClassId) (a_this : Nat) (a_this_told : Nat) (a_this_st : Nat) (a_this_text : Nat) (v_this_letters : Int32) (v_this_place : Int32) (v_this_token : Int32) (v_this_value : Int32) (v_this_begins : Int32) (a_this_read : Nat) (v_this_clauses : Int32) (a_this_ahead : Nat) (v_this_undoMany : Int32) (a_this_isKept : Nat) (a_this_kept : Nat) (v_this_fewestMany : Int32) (v_this_fewestSets : Int32) (v_this_fewestSet : Int32) (v_this_fewestMost : Int32) (a_this_aside : Nat) (a_this_seens : Nat) (v_this_seenMany : Int32) (v_this_told : Nat → Int32) (x1 : Int32) (res : Int32) (hf : f_X9_isFamily v_this_told x1 = some res) : ∀ sz, Met l yX9_isFamily wsX9_isFamily { frames := 1, cells := 0, slots := 0, locals := 25 } (PCx D (tyG cyI cyZ cyW) [.ref a_this, .int x1] (w_X9_isFamily cyI cyZ cyW a_this a_this_told a_this_st a_this_text v_this_letters v_this_place v_this_token v_this_value v_this_begins a_this_read v_this_clauses a_this_ahead v_this_undoMany a_this_isKept a_this_kept v_this_fewestMany v_this_fewestSets v_this_fewestSet v_this_fewestMost a_this_aside a_this_seens v_this_seenMany v_this_told) sz) (QI D (tyG cyI cyZ cyW) (w_X9_isFamily cyI cyZ cyW a_this a_this_told a_this_st a_this_text v_this_letters v_this_place v_this_token v_this_value v_this_begins a_this_read v_this_clauses a_this_ahead v_this_undoMany a_this_isKept a_this_kept v_this_fewestMany v_this_fewestSets v_this_fewestSet v_this_fewestMost a_this_aside a_this_seens v_this_seenMany v_this_told) sz res (w_X9_isFamily cyI cyZ cyW a_this a_this_told a_this_st a_this_text v_this_letters v_this_place v_this_token v_this_value v_this_begins a_this_read v_this_clauses a_this_ahead v_this_undoMany a_this_isKept a_this_kept v_this_fewestMany v_this_fewestSets v_this_fewestSet v_this_fewestMost a_this_aside a_this_seens v_this_seenMany v_this_told)) 0 0 (va_A (w_X9_isFamily cyI cyZ cyW a_this a_this_told a_this_st a_this_text v_this_letters v_this_place v_this_token v_this_value v_this_begins a_this_read v_this_clauses a_this_ahead v_this_undoMany a_this_isKept a_this_kept v_this_fewestMany v_this_fewestSets v_this_fewestSet v_this_fewestMost a_this_aside a_this_seens v_this_seenMany v_this_told) sz) := by
  intro sz
  refine met_of (cc := cX9_isFamily) (maxL := 2) (ret := (some .boolean)) (lv0 := [(0, .ref a_this), (1, .int x1)]) (by decide) rfl ⟨(Nat.le_of_ble_eq_true rfl), rfl⟩ ?_
  intro p e s m below meth c C hr hlk hnm hsz
  subst hsz
  have C : CX p s m _ c 2 cX9_isFamily RX9 wsX9_isFamily D (tyG cyI cyZ cyW) _ := C
  refine r_iload_n C dX9_isFamily_0 rfl 1 rfl ?_
  refine r_i2l C dX9_isFamily_1 ?_
  refine r_lconst C 0 dX9_isFamily_2 (by decide) ?_
  refine r_aload_n C dX9_isFamily_3 rfl 0 rfl ?_
  refine r_get C in_X9_isFamily_X9 0 rfl rfl 0 (by decide) lk_X9_isFamily_1 rfl rfl dX9_isFamily_4 ?_
  refine r_iconst C 0 dX9_isFamily_7 (by decide) ?_
  refine r_iald_k C 0 1 0 rfl rfl (kk_ 0 37 (by decide) (by decide)) dX9_isFamily_8 ?_
  refine r_iconst C 1 dX9_isFamily_9 (by decide) ?_
  refine r_isub C dX9_isFamily_10 ?_
  refine r_i2l C dX9_isFamily_11 ?_
  obtain ⟨y1, hy2, hf⟩ := bd_some hf
  refine r_roS_i (As := [.long (Int32.toInt64 x1), .long 0, .long (Int32.toInt64 ((v_this_told 0) - 1))]) (rest := []) C (c_X9_in l D cyI cyZ cyW (Int32.toInt64 x1) 0 (Int32.toInt64 ((v_this_told 0) - 1)) y1 hy2) gX9_isFamily_X9_in rfl hyS_X9_in ⟨rfl, rfl, (Nat.le_of_ble_eq_true rfl), (Nat.le_of_ble_eq_true rfl)⟩ rfl [] rfl rfl rfl (Nat.le_of_ble_eq_true rfl) ⟨Nat.zero_le _, Nat.zero_le _⟩ dX9_isFamily_12 ?_
  obtain ⟨hz3, hf⟩ := bz_some hf
  rw [← Option.some.inj hf]
  exact r_zret (r := y1) C hr hlk hz3 dX9_isFamily_15

theorem lk_X9_write_1 : Cond.constantLong RX9 42 (255) ∈ wsX9_write := List.mem_of_getElem? (i := 1) rfl
theorem lk_X9_write_2 : Cond.fieldLink RX9 44 "ParishCoatModel" "letters" "I" ∈ wsX9_write := List.mem_of_getElem? (i := 2) rfl
theorem lk_X9_write_3 : Cond.fieldLink RX9 16 "ParishCoatModel" "text" "[I" ∈ wsX9_write := List.mem_of_getElem? (i := 3) rfl
theorem in_X9_write_X9 : ∀ w ∈ u_ws RX9 TX9 21, w ∈ wsX9_write := fun _ h => List.mem_cons_of_mem _ (List.mem_append_right _ h)
def f_X9_write (v_this_letters : Int32) (v_this_text : Nat → Int32) (x1 : Int32) : Option (Int32 × Int32 × (Nat → Int32)) := (f_X9_in (Int32.toInt64 x1) 0 255).bind fun y1 => if y1 = 0 then (some ((-3), v_this_letters, v_this_text)) else (if v_this_letters = 160 then (some ((-5), v_this_letters, v_this_text)) else (gd_ v_this_letters 160 (some ((v_this_letters + 1), (v_this_letters + 1), (upd v_this_text (Int32.toNatClampNeg v_this_letters) x1)))))
def w_X9_write (cyI cyZ cyW : ClassId) (a_this : Nat) (a_this_told : Nat) (a_this_st : Nat) (a_this_text : Nat) (v_this_letters : Int32) (v_this_place : Int32) (v_this_token : Int32) (v_this_value : Int32) (v_this_begins : Int32) (a_this_read : Nat) (v_this_clauses : Int32) (a_this_ahead : Nat) (v_this_undoMany : Int32) (a_this_isKept : Nat) (a_this_kept : Nat) (v_this_fewestMany : Int32) (v_this_fewestSets : Int32) (v_this_fewestSet : Int32) (v_this_fewestMost : Int32) (a_this_aside : Nat) (a_this_seens : Nat) (v_this_seenMany : Int32) (v_this_text : Nat → Int32) : va_W := [(a_this, .inr (9, [.ref a_this_told, .ref a_this_st, .ref a_this_text, .int v_this_letters, .int v_this_place, .int v_this_token, .int v_this_value, .int v_this_begins, .ref a_this_read, .int v_this_clauses, .ref a_this_ahead, .int v_this_undoMany, .ref a_this_isKept, .ref a_this_kept, .int v_this_fewestMany, .int v_this_fewestSets, .int v_this_fewestSet, .int v_this_fewestMost, .ref a_this_aside, .ref a_this_seens, .int v_this_seenMany])), (a_this_text, .inl (cyI, 160, .inl v_this_text))]
set_option maxHeartbeats 4000000 in
set_option maxRecDepth 100000 in
theorem c_X9_write (l : Launch) (D : va_G) (cyI cyZ cyW : ClassId) (a_this : Nat) (a_this_told : Nat) (a_this_st : Nat) (a_this_text : Nat) (v_this_letters : Int32) (v_this_place : Int32) (v_this_token : Int32) (v_this_value : Int32) (v_this_begins : Int32) (a_this_read : Nat) (v_this_clauses : Int32) (a_this_ahead : Nat) (v_this_undoMany : Int32) (a_this_isKept : Nat) (a_this_kept : Nat) (v_this_fewestMany : Int32) (v_this_fewestSets : Int32) (v_this_fewestSet : Int32) (v_this_fewestMost : Int32) (a_this_aside : Nat) (a_this_seens : Nat) (v_this_seenMany : Int32) (v_this_text : Nat → Int32) (x1 : Int32) (res : Int32 × Int32 × (Nat → Int32)) (hf : f_X9_write v_this_letters v_this_text x1 = some res) : ∀ sz, Met l yX9_write wsX9_write { frames := 1, cells := 0, slots := 0, locals := 25 } (PCx D (tyG cyI cyZ cyW) [.ref a_this, .int x1] (w_X9_write cyI cyZ cyW a_this a_this_told a_this_st a_this_text v_this_letters v_this_place v_this_token v_this_value v_this_begins a_this_read v_this_clauses a_this_ahead v_this_undoMany a_this_isKept a_this_kept v_this_fewestMany v_this_fewestSets v_this_fewestSet v_this_fewestMost a_this_aside a_this_seens v_this_seenMany v_this_text) sz) (QI D (tyG cyI cyZ cyW) (w_X9_write cyI cyZ cyW a_this a_this_told a_this_st a_this_text v_this_letters v_this_place v_this_token v_this_value v_this_begins a_this_read v_this_clauses a_this_ahead v_this_undoMany a_this_isKept a_this_kept v_this_fewestMany v_this_fewestSets v_this_fewestSet v_this_fewestMost a_this_aside a_this_seens v_this_seenMany v_this_text) sz res.1 (w_X9_write cyI cyZ cyW a_this a_this_told a_this_st a_this_text res.2.1 v_this_place v_this_token v_this_value v_this_begins a_this_read v_this_clauses a_this_ahead v_this_undoMany a_this_isKept a_this_kept v_this_fewestMany v_this_fewestSets v_this_fewestSet v_this_fewestMost a_this_aside a_this_seens v_this_seenMany res.2.2)) 0 0 (va_A (w_X9_write cyI cyZ cyW a_this a_this_told a_this_st a_this_text v_this_letters v_this_place v_this_token v_this_value v_this_begins a_this_read v_this_clauses a_this_ahead v_this_undoMany a_this_isKept a_this_kept v_this_fewestMany v_this_fewestSets v_this_fewestSet v_this_fewestMost a_this_aside a_this_seens v_this_seenMany v_this_text) sz) := by
  intro sz
  refine met_of (cc := cX9_write) (maxL := 2) (ret := (some .int)) (lv0 := [(0, .ref a_this), (1, .int x1)]) (by decide) rfl ⟨(Nat.le_of_ble_eq_true rfl), rfl⟩ ?_
  intro p e s m below meth c C hr hlk hnm hsz
  subst hsz
  have C : CX p s m _ c 2 cX9_write RX9 wsX9_write D (tyG cyI cyZ cyW) _ := C
  refine r_iload_n C dX9_write_0 rfl 1 rfl ?_
  refine r_i2l C dX9_write_1 ?_
  refine r_lconst C 0 dX9_write_2 (by decide) ?_
  refine r_ldc2 C lk_X9_write_1 dX9_write_3 ?_
  obtain ⟨y1, hy2, hf⟩ := bd_some hf
  refine r_roS_i (As := [.long (Int32.toInt64 x1), .long 0, .long 255]) (rest := []) C (c_X9_in l D cyI cyZ cyW (Int32.toInt64 x1) 0 255 y1 hy2) gX9_write_X9_in rfl hyS_X9_in ⟨rfl, rfl, (Nat.le_of_ble_eq_true rfl), (Nat.le_of_ble_eq_true rfl)⟩ rfl [] rfl rfl rfl (Nat.le_of_ble_eq_true rfl) ⟨Nat.zero_le _, Nat.zero_le _⟩ dX9_write_6 ?_
  refine r_if_ne C 15 dX9_write_9 (by decide) hf (fun hf => ?_) (fun hf => ?_)
  · refine r_aload_n C dX9_write_15 rfl 0 rfl ?_
    refine r_get C in_X9_write_X9 0 rfl rfl 3 (by decide) lk_X9_write_2 rfl rfl dX9_write_16 ?_
    refine r_sipush C 160 dX9_write_19 (by decide) ?_
    refine r_icmp_ne C 28 dX9_write_22 (by decide) hf (fun hf => ?_) (fun hf => ?_)
    · refine r_aload_n C dX9_write_28 rfl 0 rfl ?_
      refine r_get C in_X9_write_X9 0 rfl rfl 2 (by decide) lk_X9_write_3 rfl rfl dX9_write_29 ?_
      refine r_aload_n C dX9_write_32 rfl 0 rfl ?_
      refine r_get C in_X9_write_X9 0 rfl rfl 3 (by decide) lk_X9_write_2 rfl rfl dX9_write_33 ?_
      refine r_iload_n C dX9_write_36 rfl 1 rfl ?_
      obtain ⟨hi3, hf⟩ := gd_some hf
      refine r_iast (ws' := (w_X9_write cyI cyZ cyW a_this a_this_told a_this_st a_this_text v_this_letters v_this_place v_this_token v_this_value v_this_begins a_this_read v_this_clauses a_this_ahead v_this_undoMany a_this_isKept a_this_kept v_this_fewestMany v_this_fewestSets v_this_fewestSet v_this_fewestMost a_this_aside a_this_seens v_this_seenMany (upd v_this_text (Int32.toNatClampNeg v_this_letters) x1))) C 1 0 rfl rfl hi3 rfl dX9_write_37 ?_
      refine r_aload_n C dX9_write_38 rfl 0 rfl ?_
      refine r_dup C dX9_write_39 rfl ?_
      refine r_get C in_X9_write_X9 0 rfl rfl 3 (by decide) lk_X9_write_2 rfl rfl dX9_write_40 ?_
      refine r_iconst C 1 dX9_write_43 (by decide) ?_
      refine r_iadd C dX9_write_44 ?_
      refine r_put (ws' := (w_X9_write cyI cyZ cyW a_this a_this_told a_this_st a_this_text (v_this_letters + 1) v_this_place v_this_token v_this_value v_this_begins a_this_read v_this_clauses a_this_ahead v_this_undoMany a_this_isKept a_this_kept v_this_fewestMany v_this_fewestSets v_this_fewestSet v_this_fewestMost a_this_aside a_this_seens v_this_seenMany (upd v_this_text (Int32.toNatClampNeg v_this_letters) x1))) C in_X9_write_X9 tyX9 tyX9_ok nmX9 0 rfl rfl 3 (by decide) lk_X9_write_2 rfl rfl rfl rfl (Nat.le_of_ble_eq_true rfl) rfl dX9_write_45 ?_
      refine r_aload_n C dX9_write_48 rfl 0 rfl ?_
      refine r_get C in_X9_write_X9 0 rfl rfl 3 (by decide) lk_X9_write_2 rfl rfl dX9_write_49 ?_
      rw [← Option.some.inj hf]
      exact r_iret C hr hlk dX9_write_52
    · refine r_bipush C (-5) dX9_write_25 (by decide) ?_
      rw [← Option.some.inj hf]
      exact r_iret C hr hlk dX9_write_27
  · refine r_bipush C (-3) dX9_write_12 (by decide) ?_
    rw [← Option.some.inj hf]
    exact r_iret C hr hlk dX9_write_14

theorem lk_X9_erase_1 : Cond.fieldLink RX9 44 "ParishCoatModel" "letters" "I" ∈ wsX9_erase := List.mem_of_getElem? (i := 1) rfl
theorem in_X9_erase_X9 : ∀ w ∈ u_ws RX9 TX9 21, w ∈ wsX9_erase := fun _ h => List.mem_cons_of_mem _ (List.mem_append_right _ h)
def f_X9_erase (v_this_letters : Int32) : Option (Int32 × Int32) := some (v_this_letters, 0)
def w_X9_erase (cyI cyZ cyW : ClassId) (a_this : Nat) (a_this_told : Nat) (a_this_st : Nat) (a_this_text : Nat) (v_this_letters : Int32) (v_this_place : Int32) (v_this_token : Int32) (v_this_value : Int32) (v_this_begins : Int32) (a_this_read : Nat) (v_this_clauses : Int32) (a_this_ahead : Nat) (v_this_undoMany : Int32) (a_this_isKept : Nat) (a_this_kept : Nat) (v_this_fewestMany : Int32) (v_this_fewestSets : Int32) (v_this_fewestSet : Int32) (v_this_fewestMost : Int32) (a_this_aside : Nat) (a_this_seens : Nat) (v_this_seenMany : Int32) : va_W := [(a_this, .inr (9, [.ref a_this_told, .ref a_this_st, .ref a_this_text, .int v_this_letters, .int v_this_place, .int v_this_token, .int v_this_value, .int v_this_begins, .ref a_this_read, .int v_this_clauses, .ref a_this_ahead, .int v_this_undoMany, .ref a_this_isKept, .ref a_this_kept, .int v_this_fewestMany, .int v_this_fewestSets, .int v_this_fewestSet, .int v_this_fewestMost, .ref a_this_aside, .ref a_this_seens, .int v_this_seenMany]))]
set_option maxHeartbeats 4000000 in
set_option maxRecDepth 100000 in
theorem c_X9_erase (l : Launch) (D : va_G) (cyI cyZ cyW : ClassId) (a_this : Nat) (a_this_told : Nat) (a_this_st : Nat) (a_this_text : Nat) (v_this_letters : Int32) (v_this_place : Int32) (v_this_token : Int32) (v_this_value : Int32) (v_this_begins : Int32) (a_this_read : Nat) (v_this_clauses : Int32) (a_this_ahead : Nat) (v_this_undoMany : Int32) (a_this_isKept : Nat) (a_this_kept : Nat) (v_this_fewestMany : Int32) (v_this_fewestSets : Int32) (v_this_fewestSet : Int32) (v_this_fewestMost : Int32) (a_this_aside : Nat) (a_this_seens : Nat) (v_this_seenMany : Int32) (res : Int32 × Int32) (hf : f_X9_erase v_this_letters = some res) : ∀ sz, Met l yX9_erase wsX9_erase { frames := 0, cells := 0, slots := 0, locals := 0 } (PCx D (tyG cyI cyZ cyW) [.ref a_this] (w_X9_erase cyI cyZ cyW a_this a_this_told a_this_st a_this_text v_this_letters v_this_place v_this_token v_this_value v_this_begins a_this_read v_this_clauses a_this_ahead v_this_undoMany a_this_isKept a_this_kept v_this_fewestMany v_this_fewestSets v_this_fewestSet v_this_fewestMost a_this_aside a_this_seens v_this_seenMany) sz) (QI D (tyG cyI cyZ cyW) (w_X9_erase cyI cyZ cyW a_this a_this_told a_this_st a_this_text v_this_letters v_this_place v_this_token v_this_value v_this_begins a_this_read v_this_clauses a_this_ahead v_this_undoMany a_this_isKept a_this_kept v_this_fewestMany v_this_fewestSets v_this_fewestSet v_this_fewestMost a_this_aside a_this_seens v_this_seenMany) sz res.1 (w_X9_erase cyI cyZ cyW a_this a_this_told a_this_st a_this_text res.2 v_this_place v_this_token v_this_value v_this_begins a_this_read v_this_clauses a_this_ahead v_this_undoMany a_this_isKept a_this_kept v_this_fewestMany v_this_fewestSets v_this_fewestSet v_this_fewestMost a_this_aside a_this_seens v_this_seenMany)) 0 0 (va_A (w_X9_erase cyI cyZ cyW a_this a_this_told a_this_st a_this_text v_this_letters v_this_place v_this_token v_this_value v_this_begins a_this_read v_this_clauses a_this_ahead v_this_undoMany a_this_isKept a_this_kept v_this_fewestMany v_this_fewestSets v_this_fewestSet v_this_fewestMost a_this_aside a_this_seens v_this_seenMany) sz) := by
  intro sz
  refine met_of (cc := cX9_erase) (maxL := 2) (ret := (some .int)) (lv0 := [(0, .ref a_this)]) (by decide) rfl ⟨(Nat.le_of_ble_eq_true rfl), rfl⟩ ?_
  intro p e s m below meth c C hr hlk hnm hsz
  subst hsz
  have C : CX p s m _ c 2 cX9_erase RX9 wsX9_erase D (tyG cyI cyZ cyW) _ := C
  refine r_aload_n C dX9_erase_0 rfl 0 rfl ?_
  refine r_get C in_X9_erase_X9 0 rfl rfl 3 (by decide) lk_X9_erase_1 rfl rfl dX9_erase_1 ?_
  refine r_istore_n (lv' := [(1, .int v_this_letters), (0, .ref a_this)]) C dX9_erase_4 rfl (by decide) rfl ?_
  refine r_aload_n C dX9_erase_5 rfl 1 rfl ?_
  refine r_iconst C 0 dX9_erase_6 (by decide) ?_
  refine r_put (ws' := (w_X9_erase cyI cyZ cyW a_this a_this_told a_this_st a_this_text 0 v_this_place v_this_token v_this_value v_this_begins a_this_read v_this_clauses a_this_ahead v_this_undoMany a_this_isKept a_this_kept v_this_fewestMany v_this_fewestSets v_this_fewestSet v_this_fewestMost a_this_aside a_this_seens v_this_seenMany)) C in_X9_erase_X9 tyX9 tyX9_ok nmX9 0 rfl rfl 3 (by decide) lk_X9_erase_1 rfl rfl rfl rfl (Nat.le_of_ble_eq_true rfl) rfl dX9_erase_7 ?_
  refine r_iload_n C dX9_erase_10 rfl 0 rfl ?_
  rw [← Option.some.inj hf]
  exact r_iret C hr hlk dX9_erase_11

theorem lk_X9_letterAt_1 : Cond.fieldLink RX9 44 "ParishCoatModel" "letters" "I" ∈ wsX9_letterAt := List.mem_of_getElem? (i := 1) rfl
theorem lk_X9_letterAt_2 : Cond.fieldLink RX9 16 "ParishCoatModel" "text" "[I" ∈ wsX9_letterAt := List.mem_of_getElem? (i := 2) rfl
theorem in_X9_letterAt_X9 : ∀ w ∈ u_ws RX9 TX9 21, w ∈ wsX9_letterAt := fun _ h => List.mem_cons_of_mem _ (List.mem_append_right _ h)
def f_X9_letterAt (v_this_letters : Int32) (v_this_text : Nat → Int32) (x1 : Int32) : Option (Int32) := if v_this_letters ≤ x1 then (some (0)) else (gd_ x1 160 (some ((v_this_text (Int32.toNatClampNeg x1)))))
def w_X9_letterAt (cyI cyZ cyW : ClassId) (a_this : Nat) (a_this_told : Nat) (a_this_st : Nat) (a_this_text : Nat) (v_this_letters : Int32) (v_this_place : Int32) (v_this_token : Int32) (v_this_value : Int32) (v_this_begins : Int32) (a_this_read : Nat) (v_this_clauses : Int32) (a_this_ahead : Nat) (v_this_undoMany : Int32) (a_this_isKept : Nat) (a_this_kept : Nat) (v_this_fewestMany : Int32) (v_this_fewestSets : Int32) (v_this_fewestSet : Int32) (v_this_fewestMost : Int32) (a_this_aside : Nat) (a_this_seens : Nat) (v_this_seenMany : Int32) (v_this_text : Nat → Int32) : va_W := [(a_this, .inr (9, [.ref a_this_told, .ref a_this_st, .ref a_this_text, .int v_this_letters, .int v_this_place, .int v_this_token, .int v_this_value, .int v_this_begins, .ref a_this_read, .int v_this_clauses, .ref a_this_ahead, .int v_this_undoMany, .ref a_this_isKept, .ref a_this_kept, .int v_this_fewestMany, .int v_this_fewestSets, .int v_this_fewestSet, .int v_this_fewestMost, .ref a_this_aside, .ref a_this_seens, .int v_this_seenMany])), (a_this_text, .inl (cyI, 160, .inl v_this_text))]
set_option maxHeartbeats 4000000 in
set_option maxRecDepth 100000 in
theorem c_X9_letterAt (l : Launch) (D : va_G) (cyI cyZ cyW : ClassId) (a_this : Nat) (a_this_told : Nat) (a_this_st : Nat) (a_this_text : Nat) (v_this_letters : Int32) (v_this_place : Int32) (v_this_token : Int32) (v_this_value : Int32) (v_this_begins : Int32) (a_this_read : Nat) (v_this_clauses : Int32) (a_this_ahead : Nat) (v_this_undoMany : Int32) (a_this_isKept : Nat) (a_this_kept : Nat) (v_this_fewestMany : Int32) (v_this_fewestSets : Int32) (v_this_fewestSet : Int32) (v_this_fewestMost : Int32) (a_this_aside : Nat) (a_this_seens : Nat) (v_this_seenMany : Int32) (v_this_text : Nat → Int32) (x1 : Int32) (res : Int32) (hf : f_X9_letterAt v_this_letters v_this_text x1 = some res) : ∀ sz, Met l yX9_letterAt wsX9_letterAt { frames := 0, cells := 0, slots := 0, locals := 0 } (PCx D (tyG cyI cyZ cyW) [.ref a_this, .int x1] (w_X9_letterAt cyI cyZ cyW a_this a_this_told a_this_st a_this_text v_this_letters v_this_place v_this_token v_this_value v_this_begins a_this_read v_this_clauses a_this_ahead v_this_undoMany a_this_isKept a_this_kept v_this_fewestMany v_this_fewestSets v_this_fewestSet v_this_fewestMost a_this_aside a_this_seens v_this_seenMany v_this_text) sz) (QI D (tyG cyI cyZ cyW) (w_X9_letterAt cyI cyZ cyW a_this a_this_told a_this_st a_this_text v_this_letters v_this_place v_this_token v_this_value v_this_begins a_this_read v_this_clauses a_this_ahead v_this_undoMany a_this_isKept a_this_kept v_this_fewestMany v_this_fewestSets v_this_fewestSet v_this_fewestMost a_this_aside a_this_seens v_this_seenMany v_this_text) sz res (w_X9_letterAt cyI cyZ cyW a_this a_this_told a_this_st a_this_text v_this_letters v_this_place v_this_token v_this_value v_this_begins a_this_read v_this_clauses a_this_ahead v_this_undoMany a_this_isKept a_this_kept v_this_fewestMany v_this_fewestSets v_this_fewestSet v_this_fewestMost a_this_aside a_this_seens v_this_seenMany v_this_text)) 0 0 (va_A (w_X9_letterAt cyI cyZ cyW a_this a_this_told a_this_st a_this_text v_this_letters v_this_place v_this_token v_this_value v_this_begins a_this_read v_this_clauses a_this_ahead v_this_undoMany a_this_isKept a_this_kept v_this_fewestMany v_this_fewestSets v_this_fewestSet v_this_fewestMost a_this_aside a_this_seens v_this_seenMany v_this_text) sz) := by
  intro sz
  refine met_of (cc := cX9_letterAt) (maxL := 2) (ret := (some .int)) (lv0 := [(0, .ref a_this), (1, .int x1)]) (by decide) rfl ⟨(Nat.le_of_ble_eq_true rfl), rfl⟩ ?_
  intro p e s m below meth c C hr hlk hnm hsz
  subst hsz
  have C : CX p s m _ c 2 cX9_letterAt RX9 wsX9_letterAt D (tyG cyI cyZ cyW) _ := C
  refine r_iload_n C dX9_letterAt_0 rfl 1 rfl ?_
  refine r_aload_n C dX9_letterAt_1 rfl 0 rfl ?_
  refine r_get C in_X9_letterAt_X9 0 rfl rfl 3 (by decide) lk_X9_letterAt_1 rfl rfl dX9_letterAt_2 ?_
  refine r_icmp_ge C 17 dX9_letterAt_5 (by decide) hf (fun hf => ?_) (fun hf => ?_)
  · refine r_iconst C 0 dX9_letterAt_17 (by decide) ?_
    rw [← Option.some.inj hf]
    exact r_iret C hr hlk dX9_letterAt_18
  · refine r_aload_n C dX9_letterAt_8 rfl 0 rfl ?_
    refine r_get C in_X9_letterAt_X9 0 rfl rfl 2 (by decide) lk_X9_letterAt_2 rfl rfl dX9_letterAt_9 ?_
    refine r_iload_n C dX9_letterAt_12 rfl 1 rfl ?_
    obtain ⟨hi1, hf⟩ := gd_some hf
    refine r_iald C 1 0 rfl rfl hi1 dX9_letterAt_13 ?_
    refine r_goto C 18 dX9_letterAt_14 (by decide) ?_
    rw [← Option.some.inj hf]
    exact r_iret C hr hlk dX9_letterAt_18

theorem lk_X9_nextToken_1 : Cond.fieldLink RX9 48 "ParishCoatModel" "place" "I" ∈ wsX9_nextToken := List.mem_of_getElem? (i := 1) rfl
theorem lk_X9_nextToken_10 : Cond.fieldLink RX9 16 "ParishCoatModel" "text" "[I" ∈ wsX9_nextToken := List.mem_of_getElem? (i := 10) rfl
theorem lk_X9_nextToken_2 : Cond.fieldLink RX9 55 "ParishCoatModel" "begins" "I" ∈ wsX9_nextToken := List.mem_of_getElem? (i := 2) rfl
theorem lk_X9_nextToken_3 : Cond.fieldLink RX9 58 "ParishCoatModel" "value" "I" ∈ wsX9_nextToken := List.mem_of_getElem? (i := 3) rfl
theorem lk_X9_nextToken_4 : Cond.fieldLink RX9 44 "ParishCoatModel" "letters" "I" ∈ wsX9_nextToken := List.mem_of_getElem? (i := 4) rfl
theorem lk_X9_nextToken_5 : Cond.fieldLink RX9 61 "ParishCoatModel" "token" "I" ∈ wsX9_nextToken := List.mem_of_getElem? (i := 5) rfl
theorem lk_X9_nextToken_6 : Cond.constantLong RX9 64 (97) ∈ wsX9_nextToken := List.mem_of_getElem? (i := 6) rfl
theorem lk_X9_nextToken_7 : Cond.constantLong RX9 66 (122) ∈ wsX9_nextToken := List.mem_of_getElem? (i := 7) rfl
theorem lk_X9_nextToken_8 : Cond.constantLong RX9 68 (48) ∈ wsX9_nextToken := List.mem_of_getElem? (i := 8) rfl
theorem lk_X9_nextToken_9 : Cond.constantLong RX9 70 (57) ∈ wsX9_nextToken := List.mem_of_getElem? (i := 9) rfl
theorem in_X9_nextToken_X9 : ∀ w ∈ u_ws RX9 TX9 21, w ∈ wsX9_nextToken := fun _ h => List.mem_cons_of_mem _ (List.mem_append_right _ h)
theorem hyV_X9_letterAt : yX9_letterAt.cls = RX9 ∧ yX9_letterAt.cls ≠ "java/lang/invoke/MethodHandle" ∧ yX9_letterAt.cls ≠ "java/lang/invoke/VarHandle" ∧ (parseMethodDescriptor yX9_letterAt.desc).map (fun d => d.parameters.length) = some 1 := by decide +kernel
theorem hyS_X9_letterAt : yX9_letterAt.cls ≠ "java/lang/invoke/MethodHandle" ∧ yX9_letterAt.cls ≠ "java/lang/invoke/VarHandle" ∧ (parseMethodDescriptor yX9_letterAt.desc).map (fun d => d.parameters.length) = some 1 := by decide +kernel
def f_X9_nextToken_b221 (v_this_letters : Int32) (v_this_text : Nat → Int32) (v_this_place : Int32) (v_this_token : Int32) (v_this_value : Int32) (v_this_begins : Int32) : Option (Int32 × Int32 × Int32 × Int32) := if v_this_token = 0 then (gd_ v_this_place 160 (some ((v_this_place + 1), v_this_token, (v_this_text (Int32.toNatClampNeg v_this_place)), v_this_begins))) else (some (v_this_place, v_this_token, v_this_value, v_this_begins))
def f_X9_nextToken_b193 (v_this_letters : Int32) (v_this_text : Nat → Int32) (v_this_place : Int32) (v_this_token : Int32) (v_this_value : Int32) (v_this_begins : Int32) : Option (Int32 × Int32 × Int32 × Int32) := if v_this_token = 2 then (if (v_this_place - v_this_begins) ≤ 2 then (f_X9_nextToken_b221 v_this_letters v_this_text v_this_place v_this_token v_this_value v_this_begins) else (f_X9_nextToken_b221 v_this_letters v_this_text v_this_place v_this_token 999 v_this_begins)) else (f_X9_nextToken_b221 v_this_letters v_this_text v_this_place v_this_token v_this_value v_this_begins)
def f_X9_nextToken_b172 (v_this_letters : Int32) (v_this_text : Nat → Int32) (k_106 : Int32 → Int32 → Int32 → Int32 → Option (Int32 × Int32 × Int32 × Int32)) (s0 : Int32) (v_this_place : Int32) (v_this_token : Int32) (v_this_value : Int32) (v_this_begins : Int32) : Option (Int32 × Int32 × Int32 × Int32) := k_106 (v_this_place + 1) 2 s0 v_this_begins
def f_X9_nextToken_s106 (v_this_letters : Int32) (v_this_text : Nat → Int32) (k_106 : Int32 → Int32 → Int32 → Int32 → Option (Int32 × Int32 × Int32 × Int32)) (v_this_place : Int32) (v_this_token : Int32) (v_this_value : Int32) (v_this_begins : Int32) : Option (Int32 × Int32 × Int32 × Int32) := if v_this_token = 1 then (f_X9_nextToken_b193 v_this_letters v_this_text v_this_place v_this_token v_this_value v_this_begins) else ((f_X9_letterAt v_this_letters v_this_text v_this_place).bind fun y7 => (f_X9_in (Int32.toInt64 y7) 48 57).bind fun y9 => if y9 = 0 then (f_X9_nextToken_b193 v_this_letters v_this_text v_this_place v_this_token v_this_value v_this_begins) else (if v_this_value ≤ 99 then (gd_ v_this_place 160 (f_X9_nextToken_b172 v_this_letters v_this_text k_106 (((10 * v_this_value) + (v_this_text (Int32.toNatClampNeg v_this_place))) - 48) v_this_place v_this_token v_this_value v_this_begins)) else (f_X9_nextToken_b172 v_this_letters v_this_text k_106 v_this_value v_this_place v_this_token v_this_value v_this_begins)))
def f_X9_nextToken_b106 (v_this_letters : Int32) (v_this_text : Nat → Int32) (n : Nat) : Int32 → Int32 → Int32 → Int32 → Option (Int32 × Int32 × Int32 × Int32) := it_ (f_X9_nextToken_s106 v_this_letters v_this_text ) (fun _ _ _ _ => none) n
def f_X9_nextToken_s59 (v_this_letters : Int32) (v_this_text : Nat → Int32) (k_59 : Int32 → Int32 → Int32 → Int32 → Option (Int32 × Int32 × Int32 × Int32)) (v_this_place : Int32) (v_this_token : Int32) (v_this_value : Int32) (v_this_begins : Int32) : Option (Int32 × Int32 × Int32 × Int32) := if 2 ≤ v_this_token then (f_X9_nextToken_b106 v_this_letters v_this_text 5000 v_this_place v_this_token v_this_value v_this_begins) else ((f_X9_letterAt v_this_letters v_this_text v_this_place).bind fun y3 => (f_X9_in (Int32.toInt64 y3) 97 122).bind fun y5 => if y5 = 0 then (f_X9_nextToken_b106 v_this_letters v_this_text 5000 v_this_place v_this_token v_this_value v_this_begins) else (k_59 (v_this_place + 1) 1 v_this_value v_this_begins))
def f_X9_nextToken_b59 (v_this_letters : Int32) (v_this_text : Nat → Int32) (n : Nat) : Int32 → Int32 → Int32 → Int32 → Option (Int32 × Int32 × Int32 × Int32) := it_ (f_X9_nextToken_s59 v_this_letters v_this_text ) (fun _ _ _ _ => none) n
def f_X9_nextToken_b56 (v_this_letters : Int32) (v_this_text : Nat → Int32) (s0 : Int32) (v_this_place : Int32) (v_this_token : Int32) (v_this_value : Int32) (v_this_begins : Int32) : Option (Int32 × Int32 × Int32 × Int32) := f_X9_nextToken_b59 v_this_letters v_this_text 5000 v_this_place s0 v_this_value v_this_begins
def f_X9_nextToken_s0 (v_this_letters : Int32) (v_this_text : Nat → Int32) (k_0 : Int32 → Int32 → Int32 → Int32 → Option (Int32 × Int32 × Int32 × Int32)) (v_this_place : Int32) (v_this_token : Int32) (v_this_value : Int32) (v_this_begins : Int32) : Option (Int32 × Int32 × Int32 × Int32) := (f_X9_letterAt v_this_letters v_this_text v_this_place).bind fun y1 => if y1 = 32 then (k_0 (v_this_place + 1) v_this_token v_this_value v_this_begins) else (if v_this_place = v_this_letters then (f_X9_nextToken_b56 v_this_letters v_this_text 3 v_this_place v_this_token 0 v_this_place) else (f_X9_nextToken_b56 v_this_letters v_this_text 0 v_this_place v_this_token 0 v_this_place))
def f_X9_nextToken_b0 (v_this_letters : Int32) (v_this_text : Nat → Int32) (n : Nat) : Int32 → Int32 → Int32 → Int32 → Option (Int32 × Int32 × Int32 × Int32) := it_ (f_X9_nextToken_s0 v_this_letters v_this_text ) (fun _ _ _ _ => none) n
def f_X9_nextToken (v_this_letters : Int32) (v_this_place : Int32) (v_this_token : Int32) (v_this_value : Int32) (v_this_begins : Int32) (v_this_text : Nat → Int32) : Option (Int32 × Int32 × Int32 × Int32) := f_X9_nextToken_b0 v_this_letters v_this_text 5000 v_this_place v_this_token v_this_value v_this_begins
def w_X9_nextToken (cyI cyZ cyW : ClassId) (a_this : Nat) (a_this_told : Nat) (a_this_st : Nat) (a_this_text : Nat) (v_this_letters : Int32) (v_this_place : Int32) (v_this_token : Int32) (v_this_value : Int32) (v_this_begins : Int32) (a_this_read : Nat) (v_this_clauses : Int32) (a_this_ahead : Nat) (v_this_undoMany : Int32) (a_this_isKept : Nat) (a_this_kept : Nat) (v_this_fewestMany : Int32) (v_this_fewestSets : Int32) (v_this_fewestSet : Int32) (v_this_fewestMost : Int32) (a_this_aside : Nat) (a_this_seens : Nat) (v_this_seenMany : Int32) (v_this_text : Nat → Int32) : va_W := [(a_this, .inr (9, [.ref a_this_told, .ref a_this_st, .ref a_this_text, .int v_this_letters, .int v_this_place, .int v_this_token, .int v_this_value, .int v_this_begins, .ref a_this_read, .int v_this_clauses, .ref a_this_ahead, .int v_this_undoMany, .ref a_this_isKept, .ref a_this_kept, .int v_this_fewestMany, .int v_this_fewestSets, .int v_this_fewestSet, .int v_this_fewestMost, .ref a_this_aside, .ref a_this_seens, .int v_this_seenMany])), (a_this_text, .inl (cyI, 160, .inl v_this_text))]
set_option maxHeartbeats 4000000 in
set_option maxRecDepth 100000 in
theorem c_X9_nextToken (l : Launch) (D : va_G) (cyI cyZ cyW : ClassId) (a_this : Nat) (a_this_told : Nat) (a_this_st : Nat) (a_this_text : Nat) (v_this_letters : Int32) (v_this_place : Int32) (v_this_token : Int32) (v_this_value : Int32) (v_this_begins : Int32) (a_this_read : Nat) (v_this_clauses : Int32) (a_this_ahead : Nat) (v_this_undoMany : Int32) (a_this_isKept : Nat) (a_this_kept : Nat) (v_this_fewestMany : Int32) (v_this_fewestSets : Int32) (v_this_fewestSet : Int32) (v_this_fewestMost : Int32) (a_this_aside : Nat) (a_this_seens : Nat) (v_this_seenMany : Int32) (v_this_text : Nat → Int32) (res : Int32 × Int32 × Int32 × Int32) (hf : f_X9_nextToken v_this_letters v_this_place v_this_token v_this_value v_this_begins v_this_text = some res) : ∀ sz, Met l yX9_nextToken wsX9_nextToken { frames := 1, cells := 0, slots := 0, locals := 25 } (PCx D (tyG cyI cyZ cyW) [.ref a_this] (w_X9_nextToken cyI cyZ cyW a_this a_this_told a_this_st a_this_text v_this_letters v_this_place v_this_token v_this_value v_this_begins a_this_read v_this_clauses a_this_ahead v_this_undoMany a_this_isKept a_this_kept v_this_fewestMany v_this_fewestSets v_this_fewestSet v_this_fewestMost a_this_aside a_this_seens v_this_seenMany v_this_text) sz) (QV D (tyG cyI cyZ cyW) (w_X9_nextToken cyI cyZ cyW a_this a_this_told a_this_st a_this_text v_this_letters v_this_place v_this_token v_this_value v_this_begins a_this_read v_this_clauses a_this_ahead v_this_undoMany a_this_isKept a_this_kept v_this_fewestMany v_this_fewestSets v_this_fewestSet v_this_fewestMost a_this_aside a_this_seens v_this_seenMany v_this_text) sz (w_X9_nextToken cyI cyZ cyW a_this a_this_told a_this_st a_this_text v_this_letters res.1 res.2.1 res.2.2.1 res.2.2.2 a_this_read v_this_clauses a_this_ahead v_this_undoMany a_this_isKept a_this_kept v_this_fewestMany v_this_fewestSets v_this_fewestSet v_this_fewestMost a_this_aside a_this_seens v_this_seenMany v_this_text)) 0 0 (va_A (w_X9_nextToken cyI cyZ cyW a_this a_this_told a_this_st a_this_text v_this_letters v_this_place v_this_token v_this_value v_this_begins a_this_read v_this_clauses a_this_ahead v_this_undoMany a_this_isKept a_this_kept v_this_fewestMany v_this_fewestSets v_this_fewestSet v_this_fewestMost a_this_aside a_this_seens v_this_seenMany v_this_text) sz) := by
  intro sz
  refine met_of (cc := cX9_nextToken) (maxL := 1) (ret := none) (lv0 := [(0, .ref a_this)]) (by decide) rfl ⟨(Nat.le_of_ble_eq_true rfl), rfl⟩ ?_
  intro p e s m below meth c C hr hlk hnm hsz
  subst hsz
  have C : CX p s m _ c 1 cX9_nextToken RX9 wsX9_nextToken D (tyG cyI cyZ cyW) _ := C
  obtain ⟨Z, hZ⟩ : ∃ Z : va_W → Nat → LV → List Value → Prop, Z = ST p l e { frames := 1, cells := 0, slots := 0, locals := 25 } s m [.ref a_this].toArray below meth c 1 D (va_A (w_X9_nextToken cyI cyZ cyW a_this a_this_told a_this_st a_this_text v_this_letters v_this_place v_this_token v_this_value v_this_begins a_this_read v_this_clauses a_this_ahead v_this_undoMany a_this_isKept a_this_kept v_this_fewestMany v_this_fewestSets v_this_fewestSet v_this_fewestMost a_this_aside a_this_seens v_this_seenMany v_this_text) s.heap.size) (MQ below (QV D (tyG cyI cyZ cyW) (w_X9_nextToken cyI cyZ cyW a_this a_this_told a_this_st a_this_text v_this_letters v_this_place v_this_token v_this_value v_this_begins a_this_read v_this_clauses a_this_ahead v_this_undoMany a_this_isKept a_this_kept v_this_fewestMany v_this_fewestSets v_this_fewestSet v_this_fewestMost a_this_aside a_this_seens v_this_seenMany v_this_text) s.heap.size (w_X9_nextToken cyI cyZ cyW a_this a_this_told a_this_st a_this_text v_this_letters res.1 res.2.1 res.2.2.1 res.2.2.2 a_this_read v_this_clauses a_this_ahead v_this_undoMany a_this_isKept a_this_kept v_this_fewestMany v_this_fewestSets v_this_fewestSet v_this_fewestMost a_this_aside a_this_seens v_this_seenMany v_this_text)) [.ref a_this].toArray s 0 0 (va_A (w_X9_nextToken cyI cyZ cyW a_this a_this_told a_this_st a_this_text v_this_letters v_this_place v_this_token v_this_value v_this_begins a_this_read v_this_clauses a_this_ahead v_this_undoMany a_this_isKept a_this_kept v_this_fewestMany v_this_fewestSets v_this_fewestSet v_this_fewestMost a_this_aside a_this_seens v_this_seenMany v_this_text) s.heap.size)) 0 0 := ⟨_, rfl⟩
  have hb_221 : ∀ (v_this_place : Int32) (v_this_token : Int32) (v_this_value : Int32) (v_this_begins : Int32), f_X9_nextToken_b221 v_this_letters v_this_text v_this_place v_this_token v_this_value v_this_begins = some res → Z (w_X9_nextToken cyI cyZ cyW a_this a_this_told a_this_st a_this_text v_this_letters v_this_place v_this_token v_this_value v_this_begins a_this_read v_this_clauses a_this_ahead v_this_undoMany a_this_isKept a_this_kept v_this_fewestMany v_this_fewestSets v_this_fewestSet v_this_fewestMost a_this_aside a_this_seens v_this_seenMany v_this_text) 221 [(0, .ref a_this)] [] := by
    subst hZ
    intro v_this_place v_this_token v_this_value v_this_begins hf
    refine r_aload_n C dX9_nextToken_221 rfl 0 rfl ?_
    refine r_get C in_X9_nextToken_X9 0 rfl rfl 5 (by decide) lk_X9_nextToken_5 rfl rfl dX9_nextToken_222 ?_
    refine r_if_ne C 251 dX9_nextToken_225 (by decide) hf (fun hf => ?_) (fun hf => ?_)
    · rw [← Option.some.inj hf]
      exact r_vret C hr hlk dX9_nextToken_251
    · refine r_aload_n C dX9_nextToken_228 rfl 0 rfl ?_
      refine r_aload_n C dX9_nextToken_229 rfl 0 rfl ?_
      refine r_get C in_X9_nextToken_X9 0 rfl rfl 2 (by decide) lk_X9_nextToken_10 rfl rfl dX9_nextToken_230 ?_
      refine r_aload_n C dX9_nextToken_233 rfl 0 rfl ?_
      refine r_get C in_X9_nextToken_X9 0 rfl rfl 4 (by decide) lk_X9_nextToken_1 rfl rfl dX9_nextToken_234 ?_
      obtain ⟨hi12, hf⟩ := gd_some hf
      refine r_iald C 1 0 rfl rfl hi12 dX9_nextToken_237 ?_
      refine r_put (ws' := (w_X9_nextToken cyI cyZ cyW a_this a_this_told a_this_st a_this_text v_this_letters v_this_place v_this_token (v_this_text (Int32.toNatClampNeg v_this_place)) v_this_begins a_this_read v_this_clauses a_this_ahead v_this_undoMany a_this_isKept a_this_kept v_this_fewestMany v_this_fewestSets v_this_fewestSet v_this_fewestMost a_this_aside a_this_seens v_this_seenMany v_this_text)) C in_X9_nextToken_X9 tyX9 tyX9_ok nmX9 0 rfl rfl 6 (by decide) lk_X9_nextToken_3 rfl rfl rfl rfl (Nat.le_of_ble_eq_true rfl) rfl dX9_nextToken_238 ?_
      refine r_aload_n C dX9_nextToken_241 rfl 0 rfl ?_
      refine r_dup C dX9_nextToken_242 rfl ?_
      refine r_get C in_X9_nextToken_X9 0 rfl rfl 4 (by decide) lk_X9_nextToken_1 rfl rfl dX9_nextToken_243 ?_
      refine r_iconst C 1 dX9_nextToken_246 (by decide) ?_
      refine r_iadd C dX9_nextToken_247 ?_
      refine r_put (ws' := (w_X9_nextToken cyI cyZ cyW a_this a_this_told a_this_st a_this_text v_this_letters (v_this_place + 1) v_this_token (v_this_text (Int32.toNatClampNeg v_this_place)) v_this_begins a_this_read v_this_clauses a_this_ahead v_this_undoMany a_this_isKept a_this_kept v_this_fewestMany v_this_fewestSets v_this_fewestSet v_this_fewestMost a_this_aside a_this_seens v_this_seenMany v_this_text)) C in_X9_nextToken_X9 tyX9 tyX9_ok nmX9 0 rfl rfl 4 (by decide) lk_X9_nextToken_1 rfl rfl rfl rfl (Nat.le_of_ble_eq_true rfl) rfl dX9_nextToken_248 ?_
      rw [← Option.some.inj hf]
      exact r_vret C hr hlk dX9_nextToken_251
  have hb_193 : ∀ (v_this_place : Int32) (v_this_token : Int32) (v_this_value : Int32) (v_this_begins : Int32), f_X9_nextToken_b193 v_this_letters v_this_text v_this_place v_this_token v_this_value v_this_begins = some res → Z (w_X9_nextToken cyI cyZ cyW a_this a_this_told a_this_st a_this_text v_this_letters v_this_place v_this_token v_this_value v_this_begins a_this_read v_this_clauses a_this_ahead v_this_undoMany a_this_isKept a_this_kept v_this_fewestMany v_this_fewestSets v_this_fewestSet v_this_fewestMost a_this_aside a_this_seens v_this_seenMany v_this_text) 193 [(0, .ref a_this)] [] := by
    subst hZ
    intro v_this_place v_this_token v_this_value v_this_begins hf
    refine r_aload_n C dX9_nextToken_193 rfl 0 rfl ?_
    refine r_get C in_X9_nextToken_X9 0 rfl rfl 5 (by decide) lk_X9_nextToken_5 rfl rfl dX9_nextToken_194 ?_
    refine r_iconst C 2 dX9_nextToken_197 (by decide) ?_
    refine r_icmp_ne C 221 dX9_nextToken_198 (by decide) hf (fun hf => ?_) (fun hf => ?_)
    · exact ST_lv [0] rfl (hb_221 v_this_place v_this_token v_this_value v_this_begins hf)
    · refine r_aload_n C dX9_nextToken_201 rfl 0 rfl ?_
      refine r_get C in_X9_nextToken_X9 0 rfl rfl 4 (by decide) lk_X9_nextToken_1 rfl rfl dX9_nextToken_202 ?_
      refine r_aload_n C dX9_nextToken_205 rfl 0 rfl ?_
      refine r_get C in_X9_nextToken_X9 0 rfl rfl 7 (by decide) lk_X9_nextToken_2 rfl rfl dX9_nextToken_206 ?_
      refine r_isub C dX9_nextToken_209 ?_
      refine r_iconst C 2 dX9_nextToken_210 (by decide) ?_
      refine r_icmp_le C 221 dX9_nextToken_211 (by decide) hf (fun hf => ?_) (fun hf => ?_)
      · exact ST_lv [0] rfl (hb_221 v_this_place v_this_token v_this_value v_this_begins hf)
      · refine r_aload_n C dX9_nextToken_214 rfl 0 rfl ?_
        refine r_sipush C 999 dX9_nextToken_215 (by decide) ?_
        refine r_put (ws' := (w_X9_nextToken cyI cyZ cyW a_this a_this_told a_this_st a_this_text v_this_letters v_this_place v_this_token 999 v_this_begins a_this_read v_this_clauses a_this_ahead v_this_undoMany a_this_isKept a_this_kept v_this_fewestMany v_this_fewestSets v_this_fewestSet v_this_fewestMost a_this_aside a_this_seens v_this_seenMany v_this_text)) C in_X9_nextToken_X9 tyX9 tyX9_ok nmX9 0 rfl rfl 6 (by decide) lk_X9_nextToken_3 rfl rfl rfl rfl (Nat.le_of_ble_eq_true rfl) rfl dX9_nextToken_218 ?_
        exact ST_lv [0] rfl (hb_221 v_this_place v_this_token 999 v_this_begins hf)
  have hb_172 : ∀ (k_106 : Int32 → Int32 → Int32 → Int32 → Option (Int32 × Int32 × Int32 × Int32)), (∀ (v_this_place : Int32) (v_this_token : Int32) (v_this_value : Int32) (v_this_begins : Int32), k_106 v_this_place v_this_token v_this_value v_this_begins = some res → Z (w_X9_nextToken cyI cyZ cyW a_this a_this_told a_this_st a_this_text v_this_letters v_this_place v_this_token v_this_value v_this_begins a_this_read v_this_clauses a_this_ahead v_this_undoMany a_this_isKept a_this_kept v_this_fewestMany v_this_fewestSets v_this_fewestSet v_this_fewestMost a_this_aside a_this_seens v_this_seenMany v_this_text) 106 [(0, .ref a_this)] []) → ∀ (s0 : Int32) (v_this_place : Int32) (v_this_token : Int32) (v_this_value : Int32) (v_this_begins : Int32), f_X9_nextToken_b172 v_this_letters v_this_text k_106 s0 v_this_place v_this_token v_this_value v_this_begins = some res → Z (w_X9_nextToken cyI cyZ cyW a_this a_this_told a_this_st a_this_text v_this_letters v_this_place v_this_token v_this_value v_this_begins a_this_read v_this_clauses a_this_ahead v_this_undoMany a_this_isKept a_this_kept v_this_fewestMany v_this_fewestSets v_this_fewestSet v_this_fewestMost a_this_aside a_this_seens v_this_seenMany v_this_text) 172 [(0, .ref a_this)] [.int s0, .ref a_this] := by
    subst hZ
    intro k_106 hk_106 s0 v_this_place v_this_token v_this_value v_this_begins hf
    refine r_put (ws' := (w_X9_nextToken cyI cyZ cyW a_this a_this_told a_this_st a_this_text v_this_letters v_this_place v_this_token s0 v_this_begins a_this_read v_this_clauses a_this_ahead v_this_undoMany a_this_isKept a_this_kept v_this_fewestMany v_this_fewestSets v_this_fewestSet v_this_fewestMost a_this_aside a_this_seens v_this_seenMany v_this_text)) C in_X9_nextToken_X9 tyX9 tyX9_ok nmX9 0 rfl rfl 6 (by decide) lk_X9_nextToken_3 rfl rfl rfl rfl (Nat.le_of_ble_eq_true rfl) rfl dX9_nextToken_172 ?_
    refine r_aload_n C dX9_nextToken_175 rfl 0 rfl ?_
    refine r_iconst C 2 dX9_nextToken_176 (by decide) ?_
    refine r_put (ws' := (w_X9_nextToken cyI cyZ cyW a_this a_this_told a_this_st a_this_text v_this_letters v_this_place 2 s0 v_this_begins a_this_read v_this_clauses a_this_ahead v_this_undoMany a_this_isKept a_this_kept v_this_fewestMany v_this_fewestSets v_this_fewestSet v_this_fewestMost a_this_aside a_this_seens v_this_seenMany v_this_text)) C in_X9_nextToken_X9 tyX9 tyX9_ok nmX9 0 rfl rfl 5 (by decide) lk_X9_nextToken_5 rfl rfl rfl rfl (Nat.le_of_ble_eq_true rfl) rfl dX9_nextToken_177 ?_
    refine r_aload_n C dX9_nextToken_180 rfl 0 rfl ?_
    refine r_dup C dX9_nextToken_181 rfl ?_
    refine r_get C in_X9_nextToken_X9 0 rfl rfl 4 (by decide) lk_X9_nextToken_1 rfl rfl dX9_nextToken_182 ?_
    refine r_iconst C 1 dX9_nextToken_185 (by decide) ?_
    refine r_iadd C dX9_nextToken_186 ?_
    refine r_put (ws' := (w_X9_nextToken cyI cyZ cyW a_this a_this_told a_this_st a_this_text v_this_letters (v_this_place + 1) 2 s0 v_this_begins a_this_read v_this_clauses a_this_ahead v_this_undoMany a_this_isKept a_this_kept v_this_fewestMany v_this_fewestSets v_this_fewestSet v_this_fewestMost a_this_aside a_this_seens v_this_seenMany v_this_text)) C in_X9_nextToken_X9 tyX9 tyX9_ok nmX9 0 rfl rfl 4 (by decide) lk_X9_nextToken_1 rfl rfl rfl rfl (Nat.le_of_ble_eq_true rfl) rfl dX9_nextToken_187 ?_
    refine r_goto C 106 dX9_nextToken_190 (by decide) ?_
    exact ST_lv [0] rfl (hk_106 (v_this_place + 1) 2 s0 v_this_begins hf)
  have hs_106 : ∀ (k_106 : Int32 → Int32 → Int32 → Int32 → Option (Int32 × Int32 × Int32 × Int32)), (∀ (v_this_place : Int32) (v_this_token : Int32) (v_this_value : Int32) (v_this_begins : Int32), k_106 v_this_place v_this_token v_this_value v_this_begins = some res → Z (w_X9_nextToken cyI cyZ cyW a_this a_this_told a_this_st a_this_text v_this_letters v_this_place v_this_token v_this_value v_this_begins a_this_read v_this_clauses a_this_ahead v_this_undoMany a_this_isKept a_this_kept v_this_fewestMany v_this_fewestSets v_this_fewestSet v_this_fewestMost a_this_aside a_this_seens v_this_seenMany v_this_text) 106 [(0, .ref a_this)] []) → ∀ (v_this_place : Int32) (v_this_token : Int32) (v_this_value : Int32) (v_this_begins : Int32), f_X9_nextToken_s106 v_this_letters v_this_text k_106 v_this_place v_this_token v_this_value v_this_begins = some res → Z (w_X9_nextToken cyI cyZ cyW a_this a_this_told a_this_st a_this_text v_this_letters v_this_place v_this_token v_this_value v_this_begins a_this_read v_this_clauses a_this_ahead v_this_undoMany a_this_isKept a_this_kept v_this_fewestMany v_this_fewestSets v_this_fewestSet v_this_fewestMost a_this_aside a_this_seens v_this_seenMany v_this_text) 106 [(0, .ref a_this)] [] := by
    subst hZ
    intro k_106 hk_106 v_this_place v_this_token v_this_value v_this_begins hf
    refine r_aload_n C dX9_nextToken_106 rfl 0 rfl ?_
    refine r_get C in_X9_nextToken_X9 0 rfl rfl 5 (by decide) lk_X9_nextToken_5 rfl rfl dX9_nextToken_107 ?_
    refine r_iconst C 1 dX9_nextToken_110 (by decide) ?_
    refine r_icmp_eq C 193 dX9_nextToken_111 (by decide) hf (fun hf => ?_) (fun hf => ?_)
    · exact ST_lv [0] rfl (hb_193 v_this_place v_this_token v_this_value v_this_begins hf)
    · refine r_aload_n C dX9_nextToken_114 rfl 0 rfl ?_
      refine r_aload_n C dX9_nextToken_115 rfl 0 rfl ?_
      refine r_get C in_X9_nextToken_X9 0 rfl rfl 4 (by decide) lk_X9_nextToken_1 rfl rfl dX9_nextToken_116 ?_
      obtain ⟨y7, hy8, hf⟩ := bd_some hf
      refine r_roV_i (As := [.int v_this_place]) (rest := []) C (c_X9_letterAt l D cyI cyZ cyW a_this a_this_told a_this_st a_this_text v_this_letters v_this_place v_this_token v_this_value v_this_begins a_this_read v_this_clauses a_this_ahead v_this_undoMany a_this_isKept a_this_kept v_this_fewestMany v_this_fewestSets v_this_fewestSet v_this_fewestMost a_this_aside a_this_seens v_this_seenMany v_this_text v_this_place y7 hy8) gX9_nextToken_X9_letterAt rfl hyV_X9_letterAt ⟨rfl, rfl, (Nat.le_of_ble_eq_true rfl), (Nat.le_of_ble_eq_true rfl)⟩ rfl 0 rfl rfl [0, 1] rfl rfl rfl (Nat.le_of_ble_eq_true rfl) ⟨Nat.zero_le _, Nat.zero_le _⟩ dX9_nextToken_119 ?_
      refine r_i2l C dX9_nextToken_122 ?_
      refine r_ldc2 C lk_X9_nextToken_8 dX9_nextToken_123 ?_
      refine r_ldc2 C lk_X9_nextToken_9 dX9_nextToken_126 ?_
      obtain ⟨y9, hy10, hf⟩ := bd_some hf
      refine r_roS_i (As := [.long (Int32.toInt64 y7), .long 48, .long 57]) (rest := []) C (c_X9_in l D cyI cyZ cyW (Int32.toInt64 y7) 48 57 y9 hy10) gX9_nextToken_X9_in rfl hyS_X9_in ⟨rfl, rfl, (Nat.le_of_ble_eq_true rfl), (Nat.le_of_ble_eq_true rfl)⟩ rfl [] rfl rfl rfl (Nat.le_of_ble_eq_true rfl) ⟨Nat.zero_le _, Nat.zero_le _⟩ dX9_nextToken_129 ?_
      refine r_if_eq C 193 dX9_nextToken_132 (by decide) hf (fun hf => ?_) (fun hf => ?_)
      · exact ST_lv [0] rfl (hb_193 v_this_place v_this_token v_this_value v_this_begins hf)
      · refine r_aload_n C dX9_nextToken_135 rfl 0 rfl ?_
        refine r_aload_n C dX9_nextToken_136 rfl 0 rfl ?_
        refine r_get C in_X9_nextToken_X9 0 rfl rfl 6 (by decide) lk_X9_nextToken_3 rfl rfl dX9_nextToken_137 ?_
        refine r_bipush C 99 dX9_nextToken_140 (by decide) ?_
        refine r_icmp_le C 152 dX9_nextToken_142 (by decide) hf (fun hf => ?_) (fun hf => ?_)
        · refine r_bipush C 10 dX9_nextToken_152 (by decide) ?_
          refine r_aload_n C dX9_nextToken_154 rfl 0 rfl ?_
          refine r_get C in_X9_nextToken_X9 0 rfl rfl 6 (by decide) lk_X9_nextToken_3 rfl rfl dX9_nextToken_155 ?_
          refine r_imul C dX9_nextToken_158 ?_
          refine r_aload_n C dX9_nextToken_159 rfl 0 rfl ?_
          refine r_get C in_X9_nextToken_X9 0 rfl rfl 2 (by decide) lk_X9_nextToken_10 rfl rfl dX9_nextToken_160 ?_
          refine r_aload_n C dX9_nextToken_163 rfl 0 rfl ?_
          refine r_get C in_X9_nextToken_X9 0 rfl rfl 4 (by decide) lk_X9_nextToken_1 rfl rfl dX9_nextToken_164 ?_
          obtain ⟨hi11, hf⟩ := gd_some hf
          refine r_iald C 1 0 rfl rfl hi11 dX9_nextToken_167 ?_
          refine r_iadd C dX9_nextToken_168 ?_
          refine r_bipush C 48 dX9_nextToken_169 (by decide) ?_
          refine r_isub C dX9_nextToken_171 ?_
          exact ST_lv [0] rfl (hb_172 k_106 hk_106 (((10 * v_this_value) + (v_this_text (Int32.toNatClampNeg v_this_place))) - 48) v_this_place v_this_token v_this_value v_this_begins hf)
        · refine r_aload_n C dX9_nextToken_145 rfl 0 rfl ?_
          refine r_get C in_X9_nextToken_X9 0 rfl rfl 6 (by decide) lk_X9_nextToken_3 rfl rfl dX9_nextToken_146 ?_
          refine r_goto C 172 dX9_nextToken_149 (by decide) ?_
          exact ST_lv [0] rfl (hb_172 k_106 hk_106 v_this_value v_this_place v_this_token v_this_value v_this_begins hf)
  have hb_106 : ∀ (n : Nat) (v_this_place : Int32) (v_this_token : Int32) (v_this_value : Int32) (v_this_begins : Int32), f_X9_nextToken_b106 v_this_letters v_this_text n v_this_place v_this_token v_this_value v_this_begins = some res → Z (w_X9_nextToken cyI cyZ cyW a_this a_this_told a_this_st a_this_text v_this_letters v_this_place v_this_token v_this_value v_this_begins a_this_read v_this_clauses a_this_ahead v_this_undoMany a_this_isKept a_this_kept v_this_fewestMany v_this_fewestSets v_this_fewestSet v_this_fewestMost a_this_aside a_this_seens v_this_seenMany v_this_text) 106 [(0, .ref a_this)] [] := by
    intro  n
    induction n with
    | zero => intro v_this_place v_this_token v_this_value v_this_begins hf; exact nn_ hf
    | succ n ih => exact fun v_this_place v_this_token v_this_value v_this_begins hf => hs_106 _ ih v_this_place v_this_token v_this_value v_this_begins hf
  have hs_59 : ∀ (k_59 : Int32 → Int32 → Int32 → Int32 → Option (Int32 × Int32 × Int32 × Int32)), (∀ (v_this_place : Int32) (v_this_token : Int32) (v_this_value : Int32) (v_this_begins : Int32), k_59 v_this_place v_this_token v_this_value v_this_begins = some res → Z (w_X9_nextToken cyI cyZ cyW a_this a_this_told a_this_st a_this_text v_this_letters v_this_place v_this_token v_this_value v_this_begins a_this_read v_this_clauses a_this_ahead v_this_undoMany a_this_isKept a_this_kept v_this_fewestMany v_this_fewestSets v_this_fewestSet v_this_fewestMost a_this_aside a_this_seens v_this_seenMany v_this_text) 59 [(0, .ref a_this)] []) → ∀ (v_this_place : Int32) (v_this_token : Int32) (v_this_value : Int32) (v_this_begins : Int32), f_X9_nextToken_s59 v_this_letters v_this_text k_59 v_this_place v_this_token v_this_value v_this_begins = some res → Z (w_X9_nextToken cyI cyZ cyW a_this a_this_told a_this_st a_this_text v_this_letters v_this_place v_this_token v_this_value v_this_begins a_this_read v_this_clauses a_this_ahead v_this_undoMany a_this_isKept a_this_kept v_this_fewestMany v_this_fewestSets v_this_fewestSet v_this_fewestMost a_this_aside a_this_seens v_this_seenMany v_this_text) 59 [(0, .ref a_this)] [] := by
    subst hZ
    intro k_59 hk_59 v_this_place v_this_token v_this_value v_this_begins hf
    refine r_aload_n C dX9_nextToken_59 rfl 0 rfl ?_
    refine r_get C in_X9_nextToken_X9 0 rfl rfl 5 (by decide) lk_X9_nextToken_5 rfl rfl dX9_nextToken_60 ?_
    refine r_iconst C 2 dX9_nextToken_63 (by decide) ?_
    refine r_icmp_ge C 106 dX9_nextToken_64 (by decide) hf (fun hf => ?_) (fun hf => ?_)
    · exact ST_lv [0] rfl (hb_106 5000 v_this_place v_this_token v_this_value v_this_begins hf)
    · refine r_aload_n C dX9_nextToken_67 rfl 0 rfl ?_
      refine r_aload_n C dX9_nextToken_68 rfl 0 rfl ?_
      refine r_get C in_X9_nextToken_X9 0 rfl rfl 4 (by decide) lk_X9_nextToken_1 rfl rfl dX9_nextToken_69 ?_
      obtain ⟨y3, hy4, hf⟩ := bd_some hf
      refine r_roV_i (As := [.int v_this_place]) (rest := []) C (c_X9_letterAt l D cyI cyZ cyW a_this a_this_told a_this_st a_this_text v_this_letters v_this_place v_this_token v_this_value v_this_begins a_this_read v_this_clauses a_this_ahead v_this_undoMany a_this_isKept a_this_kept v_this_fewestMany v_this_fewestSets v_this_fewestSet v_this_fewestMost a_this_aside a_this_seens v_this_seenMany v_this_text v_this_place y3 hy4) gX9_nextToken_X9_letterAt rfl hyV_X9_letterAt ⟨rfl, rfl, (Nat.le_of_ble_eq_true rfl), (Nat.le_of_ble_eq_true rfl)⟩ rfl 0 rfl rfl [0, 1] rfl rfl rfl (Nat.le_of_ble_eq_true rfl) ⟨Nat.zero_le _, Nat.zero_le _⟩ dX9_nextToken_72 ?_
      refine r_i2l C dX9_nextToken_75 ?_
      refine r_ldc2 C lk_X9_nextToken_6 dX9_nextToken_76 ?_
      refine r_ldc2 C lk_X9_nextToken_7 dX9_nextToken_79 ?_
      obtain ⟨y5, hy6, hf⟩ := bd_some hf
      refine r_roS_i (As := [.long (Int32.toInt64 y3), .long 97, .long 122]) (rest := []) C (c_X9_in l D cyI cyZ cyW (Int32.toInt64 y3) 97 122 y5 hy6) gX9_nextToken_X9_in rfl hyS_X9_in ⟨rfl, rfl, (Nat.le_of_ble_eq_true rfl), (Nat.le_of_ble_eq_true rfl)⟩ rfl [] rfl rfl rfl (Nat.le_of_ble_eq_true rfl) ⟨Nat.zero_le _, Nat.zero_le _⟩ dX9_nextToken_82 ?_
      refine r_if_eq C 106 dX9_nextToken_85 (by decide) hf (fun hf => ?_) (fun hf => ?_)
      · exact ST_lv [0] rfl (hb_106 5000 v_this_place v_this_token v_this_value v_this_begins hf)
      · refine r_aload_n C dX9_nextToken_88 rfl 0 rfl ?_
        refine r_iconst C 1 dX9_nextToken_89 (by decide) ?_
        refine r_put (ws' := (w_X9_nextToken cyI cyZ cyW a_this a_this_told a_this_st a_this_text v_this_letters v_this_place 1 v_this_value v_this_begins a_this_read v_this_clauses a_this_ahead v_this_undoMany a_this_isKept a_this_kept v_this_fewestMany v_this_fewestSets v_this_fewestSet v_this_fewestMost a_this_aside a_this_seens v_this_seenMany v_this_text)) C in_X9_nextToken_X9 tyX9 tyX9_ok nmX9 0 rfl rfl 5 (by decide) lk_X9_nextToken_5 rfl rfl rfl rfl (Nat.le_of_ble_eq_true rfl) rfl dX9_nextToken_90 ?_
        refine r_aload_n C dX9_nextToken_93 rfl 0 rfl ?_
        refine r_dup C dX9_nextToken_94 rfl ?_
        refine r_get C in_X9_nextToken_X9 0 rfl rfl 4 (by decide) lk_X9_nextToken_1 rfl rfl dX9_nextToken_95 ?_
        refine r_iconst C 1 dX9_nextToken_98 (by decide) ?_
        refine r_iadd C dX9_nextToken_99 ?_
        refine r_put (ws' := (w_X9_nextToken cyI cyZ cyW a_this a_this_told a_this_st a_this_text v_this_letters (v_this_place + 1) 1 v_this_value v_this_begins a_this_read v_this_clauses a_this_ahead v_this_undoMany a_this_isKept a_this_kept v_this_fewestMany v_this_fewestSets v_this_fewestSet v_this_fewestMost a_this_aside a_this_seens v_this_seenMany v_this_text)) C in_X9_nextToken_X9 tyX9 tyX9_ok nmX9 0 rfl rfl 4 (by decide) lk_X9_nextToken_1 rfl rfl rfl rfl (Nat.le_of_ble_eq_true rfl) rfl dX9_nextToken_100 ?_
        refine r_goto C 59 dX9_nextToken_103 (by decide) ?_
        exact ST_lv [0] rfl (hk_59 (v_this_place + 1) 1 v_this_value v_this_begins hf)
  have hb_59 : ∀ (n : Nat) (v_this_place : Int32) (v_this_token : Int32) (v_this_value : Int32) (v_this_begins : Int32), f_X9_nextToken_b59 v_this_letters v_this_text n v_this_place v_this_token v_this_value v_this_begins = some res → Z (w_X9_nextToken cyI cyZ cyW a_this a_this_told a_this_st a_this_text v_this_letters v_this_place v_this_token v_this_value v_this_begins a_this_read v_this_clauses a_this_ahead v_this_undoMany a_this_isKept a_this_kept v_this_fewestMany v_this_fewestSets v_this_fewestSet v_this_fewestMost a_this_aside a_this_seens v_this_seenMany v_this_text) 59 [(0, .ref a_this)] [] := by
    intro  n
    induction n with
    | zero => intro v_this_place v_this_token v_this_value v_this_begins hf; exact nn_ hf
    | succ n ih => exact fun v_this_place v_this_token v_this_value v_this_begins hf => hs_59 _ ih v_this_place v_this_token v_this_value v_this_begins hf
  have hb_56 : ∀ (s0 : Int32) (v_this_place : Int32) (v_this_token : Int32) (v_this_value : Int32) (v_this_begins : Int32), f_X9_nextToken_b56 v_this_letters v_this_text s0 v_this_place v_this_token v_this_value v_this_begins = some res → Z (w_X9_nextToken cyI cyZ cyW a_this a_this_told a_this_st a_this_text v_this_letters v_this_place v_this_token v_this_value v_this_begins a_this_read v_this_clauses a_this_ahead v_this_undoMany a_this_isKept a_this_kept v_this_fewestMany v_this_fewestSets v_this_fewestSet v_this_fewestMost a_this_aside a_this_seens v_this_seenMany v_this_text) 56 [(0, .ref a_this)] [.int s0, .ref a_this] := by
    subst hZ
    intro s0 v_this_place v_this_token v_this_value v_this_begins hf
    refine r_put (ws' := (w_X9_nextToken cyI cyZ cyW a_this a_this_told a_this_st a_this_text v_this_letters v_this_place s0 v_this_value v_this_begins a_this_read v_this_clauses a_this_ahead v_this_undoMany a_this_isKept a_this_kept v_this_fewestMany v_this_fewestSets v_this_fewestSet v_this_fewestMost a_this_aside a_this_seens v_this_seenMany v_this_text)) C in_X9_nextToken_X9 tyX9 tyX9_ok nmX9 0 rfl rfl 5 (by decide) lk_X9_nextToken_5 rfl rfl rfl rfl (Nat.le_of_ble_eq_true rfl) rfl dX9_nextToken_56 ?_
    exact ST_lv [0] rfl (hb_59 5000 v_this_place s0 v_this_value v_this_begins hf)
  have hs_0 : ∀ (k_0 : Int32 → Int32 → Int32 → Int32 → Option (Int32 × Int32 × Int32 × Int32)), (∀ (v_this_place : Int32) (v_this_token : Int32) (v_this_value : Int32) (v_this_begins : Int32), k_0 v_this_place v_this_token v_this_value v_this_begins = some res → Z (w_X9_nextToken cyI cyZ cyW a_this a_this_told a_this_st a_this_text v_this_letters v_this_place v_this_token v_this_value v_this_begins a_this_read v_this_clauses a_this_ahead v_this_undoMany a_this_isKept a_this_kept v_this_fewestMany v_this_fewestSets v_this_fewestSet v_this_fewestMost a_this_aside a_this_seens v_this_seenMany v_this_text) 0 [(0, .ref a_this)] []) → ∀ (v_this_place : Int32) (v_this_token : Int32) (v_this_value : Int32) (v_this_begins : Int32), f_X9_nextToken_s0 v_this_letters v_this_text k_0 v_this_place v_this_token v_this_value v_this_begins = some res → Z (w_X9_nextToken cyI cyZ cyW a_this a_this_told a_this_st a_this_text v_this_letters v_this_place v_this_token v_this_value v_this_begins a_this_read v_this_clauses a_this_ahead v_this_undoMany a_this_isKept a_this_kept v_this_fewestMany v_this_fewestSets v_this_fewestSet v_this_fewestMost a_this_aside a_this_seens v_this_seenMany v_this_text) 0 [(0, .ref a_this)] [] := by
    subst hZ
    intro k_0 hk_0 v_this_place v_this_token v_this_value v_this_begins hf
    refine r_aload_n C dX9_nextToken_0 rfl 0 rfl ?_
    refine r_aload_n C dX9_nextToken_1 rfl 0 rfl ?_
    refine r_get C in_X9_nextToken_X9 0 rfl rfl 4 (by decide) lk_X9_nextToken_1 rfl rfl dX9_nextToken_2 ?_
    obtain ⟨y1, hy2, hf⟩ := bd_some hf
    refine r_roV_i (As := [.int v_this_place]) (rest := []) C (c_X9_letterAt l D cyI cyZ cyW a_this a_this_told a_this_st a_this_text v_this_letters v_this_place v_this_token v_this_value v_this_begins a_this_read v_this_clauses a_this_ahead v_this_undoMany a_this_isKept a_this_kept v_this_fewestMany v_this_fewestSets v_this_fewestSet v_this_fewestMost a_this_aside a_this_seens v_this_seenMany v_this_text v_this_place y1 hy2) gX9_nextToken_X9_letterAt rfl hyV_X9_letterAt ⟨rfl, rfl, (Nat.le_of_ble_eq_true rfl), (Nat.le_of_ble_eq_true rfl)⟩ rfl 0 rfl rfl [0, 1] rfl rfl rfl (Nat.le_of_ble_eq_true rfl) ⟨Nat.zero_le _, Nat.zero_le _⟩ dX9_nextToken_5 ?_
    refine r_bipush C 32 dX9_nextToken_8 (by decide) ?_
    refine r_icmp_ne C 26 dX9_nextToken_10 (by decide) hf (fun hf => ?_) (fun hf => ?_)
    · refine r_aload_n C dX9_nextToken_26 rfl 0 rfl ?_
      refine r_aload_n C dX9_nextToken_27 rfl 0 rfl ?_
      refine r_get C in_X9_nextToken_X9 0 rfl rfl 4 (by decide) lk_X9_nextToken_1 rfl rfl dX9_nextToken_28 ?_
      refine r_put (ws' := (w_X9_nextToken cyI cyZ cyW a_this a_this_told a_this_st a_this_text v_this_letters v_this_place v_this_token v_this_value v_this_place a_this_read v_this_clauses a_this_ahead v_this_undoMany a_this_isKept a_this_kept v_this_fewestMany v_this_fewestSets v_this_fewestSet v_this_fewestMost a_this_aside a_this_seens v_this_seenMany v_this_text)) C in_X9_nextToken_X9 tyX9 tyX9_ok nmX9 0 rfl rfl 7 (by decide) lk_X9_nextToken_2 rfl rfl rfl rfl (Nat.le_of_ble_eq_true rfl) rfl dX9_nextToken_31 ?_
      refine r_aload_n C dX9_nextToken_34 rfl 0 rfl ?_
      refine r_iconst C 0 dX9_nextToken_35 (by decide) ?_
      refine r_put (ws' := (w_X9_nextToken cyI cyZ cyW a_this a_this_told a_this_st a_this_text v_this_letters v_this_place v_this_token 0 v_this_place a_this_read v_this_clauses a_this_ahead v_this_undoMany a_this_isKept a_this_kept v_this_fewestMany v_this_fewestSets v_this_fewestSet v_this_fewestMost a_this_aside a_this_seens v_this_seenMany v_this_text)) C in_X9_nextToken_X9 tyX9 tyX9_ok nmX9 0 rfl rfl 6 (by decide) lk_X9_nextToken_3 rfl rfl rfl rfl (Nat.le_of_ble_eq_true rfl) rfl dX9_nextToken_36 ?_
      refine r_aload_n C dX9_nextToken_39 rfl 0 rfl ?_
      refine r_aload_n C dX9_nextToken_40 rfl 0 rfl ?_
      refine r_get C in_X9_nextToken_X9 0 rfl rfl 4 (by decide) lk_X9_nextToken_1 rfl rfl dX9_nextToken_41 ?_
      refine r_aload_n C dX9_nextToken_44 rfl 0 rfl ?_
      refine r_get C in_X9_nextToken_X9 0 rfl rfl 3 (by decide) lk_X9_nextToken_4 rfl rfl dX9_nextToken_45 ?_
      refine r_icmp_ne C 55 dX9_nextToken_48 (by decide) hf (fun hf => ?_) (fun hf => ?_)
      · refine r_iconst C 0 dX9_nextToken_55 (by decide) ?_
        exact ST_lv [0] rfl (hb_56 0 v_this_place v_this_token 0 v_this_place hf)
      · refine r_iconst C 3 dX9_nextToken_51 (by decide) ?_
        refine r_goto C 56 dX9_nextToken_52 (by decide) ?_
        exact ST_lv [0] rfl (hb_56 3 v_this_place v_this_token 0 v_this_place hf)
    · refine r_aload_n C dX9_nextToken_13 rfl 0 rfl ?_
      refine r_dup C dX9_nextToken_14 rfl ?_
      refine r_get C in_X9_nextToken_X9 0 rfl rfl 4 (by decide) lk_X9_nextToken_1 rfl rfl dX9_nextToken_15 ?_
      refine r_iconst C 1 dX9_nextToken_18 (by decide) ?_
      refine r_iadd C dX9_nextToken_19 ?_
      refine r_put (ws' := (w_X9_nextToken cyI cyZ cyW a_this a_this_told a_this_st a_this_text v_this_letters (v_this_place + 1) v_this_token v_this_value v_this_begins a_this_read v_this_clauses a_this_ahead v_this_undoMany a_this_isKept a_this_kept v_this_fewestMany v_this_fewestSets v_this_fewestSet v_this_fewestMost a_this_aside a_this_seens v_this_seenMany v_this_text)) C in_X9_nextToken_X9 tyX9 tyX9_ok nmX9 0 rfl rfl 4 (by decide) lk_X9_nextToken_1 rfl rfl rfl rfl (Nat.le_of_ble_eq_true rfl) rfl dX9_nextToken_20 ?_
      refine r_goto C 0 dX9_nextToken_23 (by decide) ?_
      exact ST_lv [0] rfl (hk_0 (v_this_place + 1) v_this_token v_this_value v_this_begins hf)
  have hb_0 : ∀ (n : Nat) (v_this_place : Int32) (v_this_token : Int32) (v_this_value : Int32) (v_this_begins : Int32), f_X9_nextToken_b0 v_this_letters v_this_text n v_this_place v_this_token v_this_value v_this_begins = some res → Z (w_X9_nextToken cyI cyZ cyW a_this a_this_told a_this_st a_this_text v_this_letters v_this_place v_this_token v_this_value v_this_begins a_this_read v_this_clauses a_this_ahead v_this_undoMany a_this_isKept a_this_kept v_this_fewestMany v_this_fewestSets v_this_fewestSet v_this_fewestMost a_this_aside a_this_seens v_this_seenMany v_this_text) 0 [(0, .ref a_this)] [] := by
    intro  n
    induction n with
    | zero => intro v_this_place v_this_token v_this_value v_this_begins hf; exact nn_ hf
    | succ n ih => exact fun v_this_place v_this_token v_this_value v_this_begins hf => hs_0 _ ih v_this_place v_this_token v_this_value v_this_begins hf
  subst hZ
  exact ST_lv [0] rfl (hb_0 5000 v_this_place v_this_token v_this_value v_this_begins hf)

theorem lk_X9_wordOf_1 : Cond.fieldLink RX9 55 "ParishCoatModel" "begins" "I" ∈ wsX9_wordOf := List.mem_of_getElem? (i := 1) rfl
theorem lk_X9_wordOf_2 : Cond.fieldLink RX9 48 "ParishCoatModel" "place" "I" ∈ wsX9_wordOf := List.mem_of_getElem? (i := 2) rfl
theorem lk_X9_wordOf_3 : Cond.constantLong RX9 72 (27) ∈ wsX9_wordOf := List.mem_of_getElem? (i := 3) rfl
theorem lk_X9_wordOf_4 : Cond.fieldLink RX9 16 "ParishCoatModel" "text" "[I" ∈ wsX9_wordOf := List.mem_of_getElem? (i := 4) rfl
theorem lk_X9_wordOf_5 : Cond.constantLong RX9 64 (97) ∈ wsX9_wordOf := List.mem_of_getElem? (i := 5) rfl
theorem lk_X9_wordOf_6 : Cond.fieldLink RX9 61 "ParishCoatModel" "token" "I" ∈ wsX9_wordOf := List.mem_of_getElem? (i := 6) rfl
theorem in_X9_wordOf_X9 : ∀ w ∈ u_ws RX9 TX9 21, w ∈ wsX9_wordOf := fun _ h => List.mem_cons_of_mem _ (List.mem_append_right _ h)
def f_X9_wordOf_b52 (v_this_place : Int32) (v_this_token : Int32) (v_this_begins : Int32) (v_this_text : Nat → Int32) (x1 : Int64) : Option (Int64) := if v_this_token = 1 then (some (x1)) else (some (0))
def f_X9_wordOf_s7 (v_this_place : Int32) (v_this_token : Int32) (v_this_begins : Int32) (v_this_text : Nat → Int32) (k_7 : Int64 → Int32 → Option (Int64)) (x1 : Int64) (x3 : Int32) : Option (Int64) := if v_this_place ≤ x3 then (f_X9_wordOf_b52 v_this_place v_this_token v_this_begins v_this_text x1) else (if (v_this_begins + 9) ≤ x3 then (f_X9_wordOf_b52 v_this_place v_this_token v_this_begins v_this_text x1) else (gd_ x3 160 (k_7 ((((27 * x1) + (Int32.toInt64 (v_this_text (Int32.toNatClampNeg x3)))) - 97) + 1) (x3 + 1))))
def f_X9_wordOf_b7 (v_this_place : Int32) (v_this_token : Int32) (v_this_begins : Int32) (v_this_text : Nat → Int32) (n : Nat) : Int64 → Int32 → Option (Int64) := it_ (f_X9_wordOf_s7 v_this_place v_this_token v_this_begins v_this_text ) (fun _ _ => none) n
def f_X9_wordOf (v_this_place : Int32) (v_this_token : Int32) (v_this_begins : Int32) (v_this_text : Nat → Int32) : Option (Int64) := f_X9_wordOf_b7 v_this_place v_this_token v_this_begins v_this_text 5000 0 v_this_begins
def w_X9_wordOf (cyI cyZ cyW : ClassId) (a_this : Nat) (a_this_told : Nat) (a_this_st : Nat) (a_this_text : Nat) (v_this_letters : Int32) (v_this_place : Int32) (v_this_token : Int32) (v_this_value : Int32) (v_this_begins : Int32) (a_this_read : Nat) (v_this_clauses : Int32) (a_this_ahead : Nat) (v_this_undoMany : Int32) (a_this_isKept : Nat) (a_this_kept : Nat) (v_this_fewestMany : Int32) (v_this_fewestSets : Int32) (v_this_fewestSet : Int32) (v_this_fewestMost : Int32) (a_this_aside : Nat) (a_this_seens : Nat) (v_this_seenMany : Int32) (v_this_text : Nat → Int32) : va_W := [(a_this, .inr (9, [.ref a_this_told, .ref a_this_st, .ref a_this_text, .int v_this_letters, .int v_this_place, .int v_this_token, .int v_this_value, .int v_this_begins, .ref a_this_read, .int v_this_clauses, .ref a_this_ahead, .int v_this_undoMany, .ref a_this_isKept, .ref a_this_kept, .int v_this_fewestMany, .int v_this_fewestSets, .int v_this_fewestSet, .int v_this_fewestMost, .ref a_this_aside, .ref a_this_seens, .int v_this_seenMany])), (a_this_text, .inl (cyI, 160, .inl v_this_text))]
set_option maxHeartbeats 4000000 in
set_option maxRecDepth 100000 in
theorem c_X9_wordOf (l : Launch) (D : va_G) (cyI cyZ cyW : ClassId) (a_this : Nat) (a_this_told : Nat) (a_this_st : Nat) (a_this_text : Nat) (v_this_letters : Int32) (v_this_place : Int32) (v_this_token : Int32) (v_this_value : Int32) (v_this_begins : Int32) (a_this_read : Nat) (v_this_clauses : Int32) (a_this_ahead : Nat) (v_this_undoMany : Int32) (a_this_isKept : Nat) (a_this_kept : Nat) (v_this_fewestMany : Int32) (v_this_fewestSets : Int32) (v_this_fewestSet : Int32) (v_this_fewestMost : Int32) (a_this_aside : Nat) (a_this_seens : Nat) (v_this_seenMany : Int32) (v_this_text : Nat → Int32) (res : Int64) (hf : f_X9_wordOf v_this_place v_this_token v_this_begins v_this_text = some res) : ∀ sz, Met l yX9_wordOf wsX9_wordOf { frames := 0, cells := 0, slots := 0, locals := 0 } (PCx D (tyG cyI cyZ cyW) [.ref a_this] (w_X9_wordOf cyI cyZ cyW a_this a_this_told a_this_st a_this_text v_this_letters v_this_place v_this_token v_this_value v_this_begins a_this_read v_this_clauses a_this_ahead v_this_undoMany a_this_isKept a_this_kept v_this_fewestMany v_this_fewestSets v_this_fewestSet v_this_fewestMost a_this_aside a_this_seens v_this_seenMany v_this_text) sz) (QL D (tyG cyI cyZ cyW) (w_X9_wordOf cyI cyZ cyW a_this a_this_told a_this_st a_this_text v_this_letters v_this_place v_this_token v_this_value v_this_begins a_this_read v_this_clauses a_this_ahead v_this_undoMany a_this_isKept a_this_kept v_this_fewestMany v_this_fewestSets v_this_fewestSet v_this_fewestMost a_this_aside a_this_seens v_this_seenMany v_this_text) sz res (w_X9_wordOf cyI cyZ cyW a_this a_this_told a_this_st a_this_text v_this_letters v_this_place v_this_token v_this_value v_this_begins a_this_read v_this_clauses a_this_ahead v_this_undoMany a_this_isKept a_this_kept v_this_fewestMany v_this_fewestSets v_this_fewestSet v_this_fewestMost a_this_aside a_this_seens v_this_seenMany v_this_text)) 0 0 (va_A (w_X9_wordOf cyI cyZ cyW a_this a_this_told a_this_st a_this_text v_this_letters v_this_place v_this_token v_this_value v_this_begins a_this_read v_this_clauses a_this_ahead v_this_undoMany a_this_isKept a_this_kept v_this_fewestMany v_this_fewestSets v_this_fewestSet v_this_fewestMost a_this_aside a_this_seens v_this_seenMany v_this_text) sz) := by
  intro sz
  refine met_of (cc := cX9_wordOf) (maxL := 4) (ret := (some .long)) (lv0 := [(0, .ref a_this)]) (by decide) rfl ⟨(Nat.le_of_ble_eq_true rfl), rfl⟩ ?_
  intro p e s m below meth c C hr hlk hnm hsz
  subst hsz
  have C : CX p s m _ c 4 cX9_wordOf RX9 wsX9_wordOf D (tyG cyI cyZ cyW) _ := C
  obtain ⟨Z, hZ⟩ : ∃ Z : va_W → Nat → LV → List Value → Prop, Z = ST p l e { frames := 0, cells := 0, slots := 0, locals := 0 } s m [.ref a_this].toArray below meth c 4 D (va_A (w_X9_wordOf cyI cyZ cyW a_this a_this_told a_this_st a_this_text v_this_letters v_this_place v_this_token v_this_value v_this_begins a_this_read v_this_clauses a_this_ahead v_this_undoMany a_this_isKept a_this_kept v_this_fewestMany v_this_fewestSets v_this_fewestSet v_this_fewestMost a_this_aside a_this_seens v_this_seenMany v_this_text) s.heap.size) (MQ below (QL D (tyG cyI cyZ cyW) (w_X9_wordOf cyI cyZ cyW a_this a_this_told a_this_st a_this_text v_this_letters v_this_place v_this_token v_this_value v_this_begins a_this_read v_this_clauses a_this_ahead v_this_undoMany a_this_isKept a_this_kept v_this_fewestMany v_this_fewestSets v_this_fewestSet v_this_fewestMost a_this_aside a_this_seens v_this_seenMany v_this_text) s.heap.size res (w_X9_wordOf cyI cyZ cyW a_this a_this_told a_this_st a_this_text v_this_letters v_this_place v_this_token v_this_value v_this_begins a_this_read v_this_clauses a_this_ahead v_this_undoMany a_this_isKept a_this_kept v_this_fewestMany v_this_fewestSets v_this_fewestSet v_this_fewestMost a_this_aside a_this_seens v_this_seenMany v_this_text)) [.ref a_this].toArray s 0 0 (va_A (w_X9_wordOf cyI cyZ cyW a_this a_this_told a_this_st a_this_text v_this_letters v_this_place v_this_token v_this_value v_this_begins a_this_read v_this_clauses a_this_ahead v_this_undoMany a_this_isKept a_this_kept v_this_fewestMany v_this_fewestSets v_this_fewestSet v_this_fewestMost a_this_aside a_this_seens v_this_seenMany v_this_text) s.heap.size)) 0 0 := ⟨_, rfl⟩
  have hb_52 : ∀ (x1 : Int64), f_X9_wordOf_b52 v_this_place v_this_token v_this_begins v_this_text x1 = some res → Z (w_X9_wordOf cyI cyZ cyW a_this a_this_told a_this_st a_this_text v_this_letters v_this_place v_this_token v_this_value v_this_begins a_this_read v_this_clauses a_this_ahead v_this_undoMany a_this_isKept a_this_kept v_this_fewestMany v_this_fewestSets v_this_fewestSet v_this_fewestMost a_this_aside a_this_seens v_this_seenMany v_this_text) 52 [(0, .ref a_this), (1, .long x1)] [] := by
    subst hZ
    intro x1 hf
    refine r_aload_n C dX9_wordOf_52 rfl 0 rfl ?_
    refine r_get C in_X9_wordOf_X9 0 rfl rfl 5 (by decide) lk_X9_wordOf_6 rfl rfl dX9_wordOf_53 ?_
    refine r_iconst C 1 dX9_wordOf_56 (by decide) ?_
    refine r_icmp_ne C 64 dX9_wordOf_57 (by decide) hf (fun hf => ?_) (fun hf => ?_)
    · refine r_lconst C 0 dX9_wordOf_64 (by decide) ?_
      rw [← Option.some.inj hf]
      exact r_lret C hr hlk dX9_wordOf_65
    · refine r_lload_n C dX9_wordOf_60 rfl 1 rfl ?_
      refine r_goto C 65 dX9_wordOf_61 (by decide) ?_
      rw [← Option.some.inj hf]
      exact r_lret C hr hlk dX9_wordOf_65
  have hs_7 : ∀ (k_7 : Int64 → Int32 → Option (Int64)), (∀ (x1 : Int64) (x3 : Int32), k_7 x1 x3 = some res → Z (w_X9_wordOf cyI cyZ cyW a_this a_this_told a_this_st a_this_text v_this_letters v_this_place v_this_token v_this_value v_this_begins a_this_read v_this_clauses a_this_ahead v_this_undoMany a_this_isKept a_this_kept v_this_fewestMany v_this_fewestSets v_this_fewestSet v_this_fewestMost a_this_aside a_this_seens v_this_seenMany v_this_text) 7 [(0, .ref a_this), (1, .long x1), (3, .int x3)] []) → ∀ (x1 : Int64) (x3 : Int32), f_X9_wordOf_s7 v_this_place v_this_token v_this_begins v_this_text k_7 x1 x3 = some res → Z (w_X9_wordOf cyI cyZ cyW a_this a_this_told a_this_st a_this_text v_this_letters v_this_place v_this_token v_this_value v_this_begins a_this_read v_this_clauses a_this_ahead v_this_undoMany a_this_isKept a_this_kept v_this_fewestMany v_this_fewestSets v_this_fewestSet v_this_fewestMost a_this_aside a_this_seens v_this_seenMany v_this_text) 7 [(0, .ref a_this), (1, .long x1), (3, .int x3)] [] := by
    subst hZ
    intro k_7 hk_7 x1 x3 hf
    refine r_iload_n C dX9_wordOf_7 rfl 2 rfl ?_
    refine r_aload_n C dX9_wordOf_8 rfl 0 rfl ?_
    refine r_get C in_X9_wordOf_X9 0 rfl rfl 4 (by decide) lk_X9_wordOf_2 rfl rfl dX9_wordOf_9 ?_
    refine r_icmp_ge C 52 dX9_wordOf_12 (by decide) hf (fun hf => ?_) (fun hf => ?_)
    · exact ST_lv [0, 1] rfl (hb_52 x1 hf)
    · refine r_iload_n C dX9_wordOf_15 rfl 2 rfl ?_
      refine r_aload_n C dX9_wordOf_16 rfl 0 rfl ?_
      refine r_get C in_X9_wordOf_X9 0 rfl rfl 7 (by decide) lk_X9_wordOf_1 rfl rfl dX9_wordOf_17 ?_
      refine r_bipush C 9 dX9_wordOf_20 (by decide) ?_
      refine r_iadd C dX9_wordOf_22 ?_
      refine r_icmp_ge C 52 dX9_wordOf_23 (by decide) hf (fun hf => ?_) (fun hf => ?_)
      · exact ST_lv [0, 1] rfl (hb_52 x1 hf)
      · refine r_ldc2 C lk_X9_wordOf_3 dX9_wordOf_26 ?_
        refine r_lload_n C dX9_wordOf_29 rfl 1 rfl ?_
        refine r_lmul C dX9_wordOf_30 ?_
        refine r_aload_n C dX9_wordOf_31 rfl 0 rfl ?_
        refine r_get C in_X9_wordOf_X9 0 rfl rfl 2 (by decide) lk_X9_wordOf_4 rfl rfl dX9_wordOf_32 ?_
        refine r_iload_n C dX9_wordOf_35 rfl 2 rfl ?_
        obtain ⟨hi1, hf⟩ := gd_some hf
        refine r_iald C 1 0 rfl rfl hi1 dX9_wordOf_36 ?_
        refine r_i2l C dX9_wordOf_37 ?_
        refine r_ladd C dX9_wordOf_38 ?_
        refine r_ldc2 C lk_X9_wordOf_5 dX9_wordOf_39 ?_
        refine r_lsub C dX9_wordOf_42 ?_
        refine r_lconst C 1 dX9_wordOf_43 (by decide) ?_
        refine r_ladd C dX9_wordOf_44 ?_
        refine r_lstore_n (lv' := [(1, .long ((((27 * x1) + (Int32.toInt64 (v_this_text (Int32.toNatClampNeg x3)))) - 97) + 1)), (0, .ref a_this), (3, .int x3)]) C dX9_wordOf_45 rfl (by decide) rfl ?_
        refine r_iinc (v := 1) (k := 2) (lv' := [(3, .int (x3 + 1)), (1, .long ((((27 * x1) + (Int32.toInt64 (v_this_text (Int32.toNatClampNeg x3)))) - 97) + 1)), (0, .ref a_this)]) C dX9_wordOf_46 rfl (by decide) (by decide) rfl ?_
        refine r_goto C 7 dX9_wordOf_49 (by decide) ?_
        exact ST_lv [2, 1, 0] rfl (hk_7 ((((27 * x1) + (Int32.toInt64 (v_this_text (Int32.toNatClampNeg x3)))) - 97) + 1) (x3 + 1) hf)
  have hb_7 : ∀ (n : Nat) (x1 : Int64) (x3 : Int32), f_X9_wordOf_b7 v_this_place v_this_token v_this_begins v_this_text n x1 x3 = some res → Z (w_X9_wordOf cyI cyZ cyW a_this a_this_told a_this_st a_this_text v_this_letters v_this_place v_this_token v_this_value v_this_begins a_this_read v_this_clauses a_this_ahead v_this_undoMany a_this_isKept a_this_kept v_this_fewestMany v_this_fewestSets v_this_fewestSet v_this_fewestMost a_this_aside a_this_seens v_this_seenMany v_this_text) 7 [(0, .ref a_this), (1, .long x1), (3, .int x3)] [] := by
    intro  n
    induction n with
    | zero => intro x1 x3 hf; exact nn_ hf
    | succ n ih => exact fun x1 x3 hf => hs_7 _ ih x1 x3 hf
  subst hZ
  refine r_lconst C 0 dX9_wordOf_0 (by decide) ?_
  refine r_lstore_n (lv' := [(1, .long 0), (0, .ref a_this)]) C dX9_wordOf_1 rfl (by decide) rfl ?_
  refine r_aload_n C dX9_wordOf_2 rfl 1 rfl ?_
  refine r_get C in_X9_wordOf_X9 0 rfl rfl 7 (by decide) lk_X9_wordOf_1 rfl rfl dX9_wordOf_3 ?_
  refine r_istore_n (lv' := [(3, .int v_this_begins), (1, .long 0), (0, .ref a_this)]) C dX9_wordOf_6 rfl (by decide) rfl ?_
  exact ST_lv [2, 1, 0] rfl (hb_7 5000 0 v_this_begins hf)

theorem lk_X9_spelt_1 : Cond.constantLong RX9 72 (27) ∈ wsX9_spelt := List.mem_of_getElem? (i := 1) rfl
theorem lk_X9_spelt_2 : Cond.constantLong RX9 64 (97) ∈ wsX9_spelt := List.mem_of_getElem? (i := 2) rfl
def f_X9_spelt_b159 (x6 : Int32) (s0 : Int64) : Option (Int64) := if x6 = 0 then (some (s0)) else (some (((((s0 * 27) + (Int32.toInt64 x6)) - 97) + 1)))
def f_X9_spelt_b131 (x5 : Int32) (x6 : Int32) (s0 : Int64) : Option (Int64) := if x5 = 0 then (f_X9_spelt_b159 x6 s0) else (f_X9_spelt_b159 x6 ((((s0 * 27) + (Int32.toInt64 x5)) - 97) + 1))
def f_X9_spelt_b103 (x4 : Int32) (x5 : Int32) (x6 : Int32) (s0 : Int64) : Option (Int64) := if x4 = 0 then (f_X9_spelt_b131 x5 x6 s0) else (f_X9_spelt_b131 x5 x6 ((((s0 * 27) + (Int32.toInt64 x4)) - 97) + 1))
def f_X9_spelt_b77 (x3 : Int32) (x4 : Int32) (x5 : Int32) (x6 : Int32) (s0 : Int64) : Option (Int64) := if x3 = 0 then (f_X9_spelt_b103 x4 x5 x6 s0) else (f_X9_spelt_b103 x4 x5 x6 ((((s0 * 27) + (Int32.toInt64 x3)) - 97) + 1))
def f_X9_spelt_b51 (x2 : Int32) (x3 : Int32) (x4 : Int32) (x5 : Int32) (x6 : Int32) (s0 : Int64) : Option (Int64) := if x2 = 0 then (f_X9_spelt_b77 x3 x4 x5 x6 s0) else (f_X9_spelt_b77 x3 x4 x5 x6 ((((s0 * 27) + (Int32.toInt64 x2)) - 97) + 1))
def f_X9_spelt_b23 (x1 : Int32) (x2 : Int32) (x3 : Int32) (x4 : Int32) (x5 : Int32) (x6 : Int32) (s0 : Int32) (s1 : Int64) : Option (Int64) := if x1 = 0 then (f_X9_spelt_b51 x2 x3 x4 x5 x6 (s1 + (Int32.toInt64 s0))) else (f_X9_spelt_b51 x2 x3 x4 x5 x6 (((((s1 + (Int32.toInt64 s0)) * 27) + (Int32.toInt64 x1)) - 97) + 1))
def f_X9_spelt (x0 : Int32) (x1 : Int32) (x2 : Int32) (x3 : Int32) (x4 : Int32) (x5 : Int32) (x6 : Int32) : Option (Int64) := if x0 = 0 then (f_X9_spelt_b23 x1 x2 x3 x4 x5 x6 0 (0 * 27)) else (f_X9_spelt_b23 x1 x2 x3 x4 x5 x6 ((x0 - 97) + 1) (0 * 27))
def w_X9_spelt (cyI cyZ cyW : ClassId) : va_W := []
set_option maxHeartbeats 4000000 in
set_option maxRecDepth 100000 in
theorem c_X9_spelt (l : Launch) (D : va_G) (cyI cyZ cyW : ClassId) (x0 : Int32) (x1 : Int32) (x2 : Int32) (x3 : Int32) (x4 : Int32) (x5 : Int32) (x6 : Int32) (res : Int64) (hf : f_X9_spelt x0 x1 x2 x3 x4 x5 x6 = some res) : ∀ sz, Met l yX9_spelt wsX9_spelt { frames := 0, cells := 0, slots := 0, locals := 0 } (PCx D (tyG cyI cyZ cyW) [.int x0, .int x1, .int x2, .int x3, .int x4, .int x5, .int x6] [] sz) (QL D (tyG cyI cyZ cyW) [] sz res []) 0 0 (va_A [] sz) := by
  intro sz
  refine met_of (cc := cX9_spelt) (maxL := 9) (ret := (some .long)) (lv0 := [(0, .int x0), (1, .int x1), (2, .int x2), (3, .int x3), (4, .int x4), (5, .int x5), (6, .int x6)]) (by decide) rfl ⟨(Nat.le_of_ble_eq_true rfl), rfl⟩ ?_
  intro p e s m below meth c C hr hlk hnm hsz
  subst hsz
  have C : CX p s m _ c 9 cX9_spelt RX9 wsX9_spelt D (tyG cyI cyZ cyW) _ := C
  obtain ⟨Z, hZ⟩ : ∃ Z : va_W → Nat → LV → List Value → Prop, Z = ST p l e { frames := 0, cells := 0, slots := 0, locals := 0 } s m [.int x0, .int x1, .int x2, .int x3, .int x4, .int x5, .int x6].toArray below meth c 9 D (va_A [] s.heap.size) (MQ below (QL D (tyG cyI cyZ cyW) [] s.heap.size res []) [.int x0, .int x1, .int x2, .int x3, .int x4, .int x5, .int x6].toArray s 0 0 (va_A [] s.heap.size)) 0 0 := ⟨_, rfl⟩
  have hb_159 : ∀ (x6 : Int32) (s0 : Int64), f_X9_spelt_b159 x6 s0 = some res → Z [] 159 [(6, .int x6)] [.long s0] := by
    subst hZ
    intro x6 s0 hf
    refine r_lstore (lv' := [(7, .long s0), (6, .int x6)]) C dX9_spelt_159 (by decide) rfl ?_
    refine r_iload C dX9_spelt_161 1 rfl ?_
    refine r_if_ne C 171 dX9_spelt_163 (by decide) hf (fun hf => ?_) (fun hf => ?_)
    · refine r_lload C dX9_spelt_171 0 rfl ?_
      refine r_ldc2 C lk_X9_spelt_1 dX9_spelt_173 ?_
      refine r_lmul C dX9_spelt_176 ?_
      refine r_iload C dX9_spelt_177 1 rfl ?_
      refine r_i2l C dX9_spelt_179 ?_
      refine r_ladd C dX9_spelt_180 ?_
      refine r_ldc2 C lk_X9_spelt_2 dX9_spelt_181 ?_
      refine r_lsub C dX9_spelt_184 ?_
      refine r_lconst C 1 dX9_spelt_185 (by decide) ?_
      refine r_ladd C dX9_spelt_186 ?_
      rw [← Option.some.inj hf]
      exact r_lret C hr hlk dX9_spelt_187
    · refine r_lload C dX9_spelt_166 0 rfl ?_
      refine r_goto C 187 dX9_spelt_168 (by decide) ?_
      rw [← Option.some.inj hf]
      exact r_lret C hr hlk dX9_spelt_187
  have hb_131 : ∀ (x5 : Int32) (x6 : Int32) (s0 : Int64), f_X9_spelt_b131 x5 x6 s0 = some res → Z [] 131 [(5, .int x5), (6, .int x6)] [.long s0] := by
    subst hZ
    intro x5 x6 s0 hf
    refine r_lstore (lv' := [(7, .long s0), (5, .int x5), (6, .int x6)]) C dX9_spelt_131 (by decide) rfl ?_
    refine r_iload C dX9_spelt_133 1 rfl ?_
    refine r_if_ne C 143 dX9_spelt_135 (by decide) hf (fun hf => ?_) (fun hf => ?_)
    · refine r_lload C dX9_spelt_143 0 rfl ?_
      refine r_ldc2 C lk_X9_spelt_1 dX9_spelt_145 ?_
      refine r_lmul C dX9_spelt_148 ?_
      refine r_iload C dX9_spelt_149 1 rfl ?_
      refine r_i2l C dX9_spelt_151 ?_
      refine r_ladd C dX9_spelt_152 ?_
      refine r_ldc2 C lk_X9_spelt_2 dX9_spelt_153 ?_
      refine r_lsub C dX9_spelt_156 ?_
      refine r_lconst C 1 dX9_spelt_157 (by decide) ?_
      refine r_ladd C dX9_spelt_158 ?_
      exact ST_lv [2] rfl (hb_159 x6 ((((s0 * 27) + (Int32.toInt64 x5)) - 97) + 1) hf)
    · refine r_lload C dX9_spelt_138 0 rfl ?_
      refine r_goto C 159 dX9_spelt_140 (by decide) ?_
      exact ST_lv [2] rfl (hb_159 x6 s0 hf)
  have hb_103 : ∀ (x4 : Int32) (x5 : Int32) (x6 : Int32) (s0 : Int64), f_X9_spelt_b103 x4 x5 x6 s0 = some res → Z [] 103 [(4, .int x4), (5, .int x5), (6, .int x6)] [.long s0] := by
    subst hZ
    intro x4 x5 x6 s0 hf
    refine r_lstore (lv' := [(7, .long s0), (4, .int x4), (5, .int x5), (6, .int x6)]) C dX9_spelt_103 (by decide) rfl ?_
    refine r_iload C dX9_spelt_105 1 rfl ?_
    refine r_if_ne C 115 dX9_spelt_107 (by decide) hf (fun hf => ?_) (fun hf => ?_)
    · refine r_lload C dX9_spelt_115 0 rfl ?_
      refine r_ldc2 C lk_X9_spelt_1 dX9_spelt_117 ?_
      refine r_lmul C dX9_spelt_120 ?_
      refine r_iload C dX9_spelt_121 1 rfl ?_
      refine r_i2l C dX9_spelt_123 ?_
      refine r_ladd C dX9_spelt_124 ?_
      refine r_ldc2 C lk_X9_spelt_2 dX9_spelt_125 ?_
      refine r_lsub C dX9_spelt_128 ?_
      refine r_lconst C 1 dX9_spelt_129 (by decide) ?_
      refine r_ladd C dX9_spelt_130 ?_
      exact ST_lv [2, 3] rfl (hb_131 x5 x6 ((((s0 * 27) + (Int32.toInt64 x4)) - 97) + 1) hf)
    · refine r_lload C dX9_spelt_110 0 rfl ?_
      refine r_goto C 131 dX9_spelt_112 (by decide) ?_
      exact ST_lv [2, 3] rfl (hb_131 x5 x6 s0 hf)
  have hb_77 : ∀ (x3 : Int32) (x4 : Int32) (x5 : Int32) (x6 : Int32) (s0 : Int64), f_X9_spelt_b77 x3 x4 x5 x6 s0 = some res → Z [] 77 [(3, .int x3), (4, .int x4), (5, .int x5), (6, .int x6)] [.long s0] := by
    subst hZ
    intro x3 x4 x5 x6 s0 hf
    refine r_lstore (lv' := [(7, .long s0), (3, .int x3), (4, .int x4), (5, .int x5), (6, .int x6)]) C dX9_spelt_77 (by decide) rfl ?_
    refine r_iload_n C dX9_spelt_79 rfl 1 rfl ?_
    refine r_if_ne C 88 dX9_spelt_80 (by decide) hf (fun hf => ?_) (fun hf => ?_)
    · refine r_lload C dX9_spelt_88 0 rfl ?_
      refine r_ldc2 C lk_X9_spelt_1 dX9_spelt_90 ?_
      refine r_lmul C dX9_spelt_93 ?_
      refine r_iload_n C dX9_spelt_94 rfl 1 rfl ?_
      refine r_i2l C dX9_spelt_95 ?_
      refine r_ladd C dX9_spelt_96 ?_
      refine r_ldc2 C lk_X9_spelt_2 dX9_spelt_97 ?_
      refine r_lsub C dX9_spelt_100 ?_
      refine r_lconst C 1 dX9_spelt_101 (by decide) ?_
      refine r_ladd C dX9_spelt_102 ?_
      exact ST_lv [2, 3, 4] rfl (hb_103 x4 x5 x6 ((((s0 * 27) + (Int32.toInt64 x3)) - 97) + 1) hf)
    · refine r_lload C dX9_spelt_83 0 rfl ?_
      refine r_goto C 103 dX9_spelt_85 (by decide) ?_
      exact ST_lv [2, 3, 4] rfl (hb_103 x4 x5 x6 s0 hf)
  have hb_51 : ∀ (x2 : Int32) (x3 : Int32) (x4 : Int32) (x5 : Int32) (x6 : Int32) (s0 : Int64), f_X9_spelt_b51 x2 x3 x4 x5 x6 s0 = some res → Z [] 51 [(2, .int x2), (3, .int x3), (4, .int x4), (5, .int x5), (6, .int x6)] [.long s0] := by
    subst hZ
    intro x2 x3 x4 x5 x6 s0 hf
    refine r_lstore (lv' := [(7, .long s0), (2, .int x2), (3, .int x3), (4, .int x4), (5, .int x5), (6, .int x6)]) C dX9_spelt_51 (by decide) rfl ?_
    refine r_iload_n C dX9_spelt_53 rfl 1 rfl ?_
    refine r_if_ne C 62 dX9_spelt_54 (by decide) hf (fun hf => ?_) (fun hf => ?_)
    · refine r_lload C dX9_spelt_62 0 rfl ?_
      refine r_ldc2 C lk_X9_spelt_1 dX9_spelt_64 ?_
      refine r_lmul C dX9_spelt_67 ?_
      refine r_iload_n C dX9_spelt_68 rfl 1 rfl ?_
      refine r_i2l C dX9_spelt_69 ?_
      refine r_ladd C dX9_spelt_70 ?_
      refine r_ldc2 C lk_X9_spelt_2 dX9_spelt_71 ?_
      refine r_lsub C dX9_spelt_74 ?_
      refine r_lconst C 1 dX9_spelt_75 (by decide) ?_
      refine r_ladd C dX9_spelt_76 ?_
      exact ST_lv [2, 3, 4, 5] rfl (hb_77 x3 x4 x5 x6 ((((s0 * 27) + (Int32.toInt64 x2)) - 97) + 1) hf)
    · refine r_lload C dX9_spelt_57 0 rfl ?_
      refine r_goto C 77 dX9_spelt_59 (by decide) ?_
      exact ST_lv [2, 3, 4, 5] rfl (hb_77 x3 x4 x5 x6 s0 hf)
  have hb_23 : ∀ (x1 : Int32) (x2 : Int32) (x3 : Int32) (x4 : Int32) (x5 : Int32) (x6 : Int32) (s0 : Int32) (s1 : Int64), f_X9_spelt_b23 x1 x2 x3 x4 x5 x6 s0 s1 = some res → Z [] 23 [(1, .int x1), (2, .int x2), (3, .int x3), (4, .int x4), (5, .int x5), (6, .int x6)] [.int s0, .long s1] := by
    subst hZ
    intro x1 x2 x3 x4 x5 x6 s0 s1 hf
    refine r_i2l C dX9_spelt_23 ?_
    refine r_ladd C dX9_spelt_24 ?_
    refine r_lstore (lv' := [(7, .long (s1 + (Int32.toInt64 s0))), (1, .int x1), (2, .int x2), (3, .int x3), (4, .int x4), (5, .int x5), (6, .int x6)]) C dX9_spelt_25 (by decide) rfl ?_
    refine r_iload_n C dX9_spelt_27 rfl 1 rfl ?_
    refine r_if_ne C 36 dX9_spelt_28 (by decide) hf (fun hf => ?_) (fun hf => ?_)
    · refine r_lload C dX9_spelt_36 0 rfl ?_
      refine r_ldc2 C lk_X9_spelt_1 dX9_spelt_38 ?_
      refine r_lmul C dX9_spelt_41 ?_
      refine r_iload_n C dX9_spelt_42 rfl 1 rfl ?_
      refine r_i2l C dX9_spelt_43 ?_
      refine r_ladd C dX9_spelt_44 ?_
      refine r_ldc2 C lk_X9_spelt_2 dX9_spelt_45 ?_
      refine r_lsub C dX9_spelt_48 ?_
      refine r_lconst C 1 dX9_spelt_49 (by decide) ?_
      refine r_ladd C dX9_spelt_50 ?_
      exact ST_lv [2, 3, 4, 5, 6] rfl (hb_51 x2 x3 x4 x5 x6 (((((s1 + (Int32.toInt64 s0)) * 27) + (Int32.toInt64 x1)) - 97) + 1) hf)
    · refine r_lload C dX9_spelt_31 0 rfl ?_
      refine r_goto C 51 dX9_spelt_33 (by decide) ?_
      exact ST_lv [2, 3, 4, 5, 6] rfl (hb_51 x2 x3 x4 x5 x6 (s1 + (Int32.toInt64 s0)) hf)
  subst hZ
  refine r_lconst C 0 dX9_spelt_0 (by decide) ?_
  refine r_lstore (lv' := [(7, .long 0), (0, .int x0), (1, .int x1), (2, .int x2), (3, .int x3), (4, .int x4), (5, .int x5), (6, .int x6)]) C dX9_spelt_1 (by decide) rfl ?_
  refine r_lload C dX9_spelt_3 0 rfl ?_
  refine r_ldc2 C lk_X9_spelt_1 dX9_spelt_5 ?_
  refine r_lmul C dX9_spelt_8 ?_
  refine r_iload_n C dX9_spelt_9 rfl 1 rfl ?_
  refine r_if_ne C 17 dX9_spelt_10 (by decide) hf (fun hf => ?_) (fun hf => ?_)
  · refine r_iload_n C dX9_spelt_17 rfl 1 rfl ?_
    refine r_bipush C 97 dX9_spelt_18 (by decide) ?_
    refine r_isub C dX9_spelt_20 ?_
    refine r_iconst C 1 dX9_spelt_21 (by decide) ?_
    refine r_iadd C dX9_spelt_22 ?_
    exact ST_lv [2, 3, 4, 5, 6, 7] rfl (hb_23 x1 x2 x3 x4 x5 x6 ((x0 - 97) + 1) (0 * 27) hf)
  · refine r_iconst C 0 dX9_spelt_13 (by decide) ?_
    refine r_goto C 23 dX9_spelt_14 (by decide) ?_
    exact ST_lv [2, 3, 4, 5, 6, 7] rfl (hb_23 x1 x2 x3 x4 x5 x6 0 (0 * 27) hf)

theorem hyV_X9_wordOf : yX9_wordOf.cls = RX9 ∧ yX9_wordOf.cls ≠ "java/lang/invoke/MethodHandle" ∧ yX9_wordOf.cls ≠ "java/lang/invoke/VarHandle" ∧ (parseMethodDescriptor yX9_wordOf.desc).map (fun d => d.parameters.length) = some 0 := by decide +kernel
theorem hyS_X9_wordOf : yX9_wordOf.cls ≠ "java/lang/invoke/MethodHandle" ∧ yX9_wordOf.cls ≠ "java/lang/invoke/VarHandle" ∧ (parseMethodDescriptor yX9_wordOf.desc).map (fun d => d.parameters.length) = some 0 := by decide +kernel
theorem hyV_X9_spelt : yX9_spelt.cls = RX9 ∧ yX9_spelt.cls ≠ "java/lang/invoke/MethodHandle" ∧ yX9_spelt.cls ≠ "java/lang/invoke/VarHandle" ∧ (parseMethodDescriptor yX9_spelt.desc).map (fun d => d.parameters.length) = some 7 := by decide +kernel
theorem hyS_X9_spelt : yX9_spelt.cls ≠ "java/lang/invoke/MethodHandle" ∧ yX9_spelt.cls ≠ "java/lang/invoke/VarHandle" ∧ (parseMethodDescriptor yX9_spelt.desc).map (fun d => d.parameters.length) = some 7 := by decide +kernel
def f_X9_verb (v_this_place : Int32) (v_this_token : Int32) (v_this_begins : Int32) (v_this_text : Nat → Int32) : Option (Int32) := (f_X9_wordOf v_this_place v_this_token v_this_begins v_this_text).bind fun y1 => (f_X9_spelt 98 111 110 101 0 0 0).bind fun y3 => if (lg_cmp y1 y3) = 0 then (some (0)) else ((f_X9_spelt 98 114 97 115 115 0 0).bind fun y5 => if (lg_cmp y1 y5) = 0 then (some (1)) else ((f_X9_spelt 112 101 97 114 108 0 0).bind fun y7 => if (lg_cmp y1 y7) = 0 then (some (2)) else ((f_X9_spelt 108 111 111 115 101 0 0).bind fun y9 => if (lg_cmp y1 y9) = 0 then (some (3)) else ((f_X9_spelt 99 111 97 116 0 0 0).bind fun y11 => if (lg_cmp y1 y11) = 0 then (some (4)) else ((f_X9_spelt 102 97 118 111 117 114 0).bind fun y13 => if (lg_cmp y1 y13) = 0 then (some (5)) else ((f_X9_spelt 102 101 117 100 0 0 0).bind fun y15 => if (lg_cmp y1 y15) = 0 then (some (6)) else ((f_X9_spelt 113 117 111 116 97 0 0).bind fun y17 => if (lg_cmp y1 y17) = 0 then (some (7)) else ((f_X9_spelt 99 111 108 100 0 0 0).bind fun y19 => if (lg_cmp y1 y19) = 0 then (some (8)) else ((f_X9_spelt 109 105 108 100 0 0 0).bind fun y21 => if (lg_cmp y1 y21) = 0 then (some (9)) else (some ((-1))))))))))))
def w_X9_verb (cyI cyZ cyW : ClassId) (a_this : Nat) (a_this_told : Nat) (a_this_st : Nat) (a_this_text : Nat) (v_this_letters : Int32) (v_this_place : Int32) (v_this_token : Int32) (v_this_value : Int32) (v_this_begins : Int32) (a_this_read : Nat) (v_this_clauses : Int32) (a_this_ahead : Nat) (v_this_undoMany : Int32) (a_this_isKept : Nat) (a_this_kept : Nat) (v_this_fewestMany : Int32) (v_this_fewestSets : Int32) (v_this_fewestSet : Int32) (v_this_fewestMost : Int32) (a_this_aside : Nat) (a_this_seens : Nat) (v_this_seenMany : Int32) (v_this_text : Nat → Int32) : va_W := [(a_this, .inr (9, [.ref a_this_told, .ref a_this_st, .ref a_this_text, .int v_this_letters, .int v_this_place, .int v_this_token, .int v_this_value, .int v_this_begins, .ref a_this_read, .int v_this_clauses, .ref a_this_ahead, .int v_this_undoMany, .ref a_this_isKept, .ref a_this_kept, .int v_this_fewestMany, .int v_this_fewestSets, .int v_this_fewestSet, .int v_this_fewestMost, .ref a_this_aside, .ref a_this_seens, .int v_this_seenMany])), (a_this_text, .inl (cyI, 160, .inl v_this_text))]
set_option maxHeartbeats 4000000 in
set_option maxRecDepth 100000 in
theorem c_X9_verb (l : Launch) (D : va_G) (cyI cyZ cyW : ClassId) (a_this : Nat) (a_this_told : Nat) (a_this_st : Nat) (a_this_text : Nat) (v_this_letters : Int32) (v_this_place : Int32) (v_this_token : Int32) (v_this_value : Int32) (v_this_begins : Int32) (a_this_read : Nat) (v_this_clauses : Int32) (a_this_ahead : Nat) (v_this_undoMany : Int32) (a_this_isKept : Nat) (a_this_kept : Nat) (v_this_fewestMany : Int32) (v_this_fewestSets : Int32) (v_this_fewestSet : Int32) (v_this_fewestMost : Int32) (a_this_aside : Nat) (a_this_seens : Nat) (v_this_seenMany : Int32) (v_this_text : Nat → Int32) (res : Int32) (hf : f_X9_verb v_this_place v_this_token v_this_begins v_this_text = some res) : ∀ sz, Met l yX9_verb wsX9_verb { frames := 1, cells := 0, slots := 0, locals := 28 } (PCx D (tyG cyI cyZ cyW) [.ref a_this] (w_X9_verb cyI cyZ cyW a_this a_this_told a_this_st a_this_text v_this_letters v_this_place v_this_token v_this_value v_this_begins a_this_read v_this_clauses a_this_ahead v_this_undoMany a_this_isKept a_this_kept v_this_fewestMany v_this_fewestSets v_this_fewestSet v_this_fewestMost a_this_aside a_this_seens v_this_seenMany v_this_text) sz) (QI D (tyG cyI cyZ cyW) (w_X9_verb cyI cyZ cyW a_this a_this_told a_this_st a_this_text v_this_letters v_this_place v_this_token v_this_value v_this_begins a_this_read v_this_clauses a_this_ahead v_this_undoMany a_this_isKept a_this_kept v_this_fewestMany v_this_fewestSets v_this_fewestSet v_this_fewestMost a_this_aside a_this_seens v_this_seenMany v_this_text) sz res (w_X9_verb cyI cyZ cyW a_this a_this_told a_this_st a_this_text v_this_letters v_this_place v_this_token v_this_value v_this_begins a_this_read v_this_clauses a_this_ahead v_this_undoMany a_this_isKept a_this_kept v_this_fewestMany v_this_fewestSets v_this_fewestSet v_this_fewestMost a_this_aside a_this_seens v_this_seenMany v_this_text)) 0 0 (va_A (w_X9_verb cyI cyZ cyW a_this a_this_told a_this_st a_this_text v_this_letters v_this_place v_this_token v_this_value v_this_begins a_this_read v_this_clauses a_this_ahead v_this_undoMany a_this_isKept a_this_kept v_this_fewestMany v_this_fewestSets v_this_fewestSet v_this_fewestMost a_this_aside a_this_seens v_this_seenMany v_this_text) sz) := by
  intro sz
  refine met_of (cc := cX9_verb) (maxL := 3) (ret := (some .int)) (lv0 := [(0, .ref a_this)]) (by decide) rfl ⟨(Nat.le_of_ble_eq_true rfl), rfl⟩ ?_
  intro p e s m below meth c C hr hlk hnm hsz
  subst hsz
  have C : CX p s m _ c 3 cX9_verb RX9 wsX9_verb D (tyG cyI cyZ cyW) _ := C
  refine r_aload_n C dX9_verb_0 rfl 0 rfl ?_
  obtain ⟨y1, hy2, hf⟩ := bd_some hf
  refine r_roV_l (As := []) (rest := []) C (c_X9_wordOf l D cyI cyZ cyW a_this a_this_told a_this_st a_this_text v_this_letters v_this_place v_this_token v_this_value v_this_begins a_this_read v_this_clauses a_this_ahead v_this_undoMany a_this_isKept a_this_kept v_this_fewestMany v_this_fewestSets v_this_fewestSet v_this_fewestMost a_this_aside a_this_seens v_this_seenMany v_this_text y1 hy2) gX9_verb_X9_wordOf rfl hyV_X9_wordOf ⟨rfl, rfl, (Nat.le_of_ble_eq_true rfl), (Nat.le_of_ble_eq_true rfl)⟩ rfl 0 rfl rfl [0, 1] rfl rfl rfl (Nat.le_of_ble_eq_true rfl) ⟨Nat.zero_le _, Nat.zero_le _⟩ dX9_verb_1 ?_
  refine r_lstore_n (lv' := [(1, .long y1), (0, .ref a_this)]) C dX9_verb_4 rfl (by decide) rfl ?_
  refine r_lload_n C dX9_verb_5 rfl 0 rfl ?_
  refine r_bipush C 98 dX9_verb_6 (by decide) ?_
  refine r_bipush C 111 dX9_verb_8 (by decide) ?_
  refine r_bipush C 110 dX9_verb_10 (by decide) ?_
  refine r_bipush C 101 dX9_verb_12 (by decide) ?_
  refine r_iconst C 0 dX9_verb_14 (by decide) ?_
  refine r_iconst C 0 dX9_verb_15 (by decide) ?_
  refine r_iconst C 0 dX9_verb_16 (by decide) ?_
  obtain ⟨y3, hy4, hf⟩ := bd_some hf
  refine r_roS_l (As := [.int 98, .int 111, .int 110, .int 101, .int 0, .int 0, .int 0]) (rest := [.long y1]) C (c_X9_spelt l D cyI cyZ cyW 98 111 110 101 0 0 0 y3 hy4) gX9_verb_X9_spelt rfl hyS_X9_spelt ⟨rfl, rfl, (Nat.le_of_ble_eq_true rfl), (Nat.le_of_ble_eq_true rfl)⟩ rfl [] rfl rfl rfl (Nat.le_of_ble_eq_true rfl) ⟨Nat.zero_le _, Nat.zero_le _⟩ dX9_verb_17 ?_
  refine r_lcmp C dX9_verb_20 ?_
  refine r_if_ne C 26 dX9_verb_21 (by decide) hf (fun hf => ?_) (fun hf => ?_)
  · refine r_lload_n C dX9_verb_26 rfl 0 rfl ?_
    refine r_bipush C 98 dX9_verb_27 (by decide) ?_
    refine r_bipush C 114 dX9_verb_29 (by decide) ?_
    refine r_bipush C 97 dX9_verb_31 (by decide) ?_
    refine r_bipush C 115 dX9_verb_33 (by decide) ?_
    refine r_bipush C 115 dX9_verb_35 (by decide) ?_
    refine r_iconst C 0 dX9_verb_37 (by decide) ?_
    refine r_iconst C 0 dX9_verb_38 (by decide) ?_
    obtain ⟨y5, hy6, hf⟩ := bd_some hf
    refine r_roS_l (As := [.int 98, .int 114, .int 97, .int 115, .int 115, .int 0, .int 0]) (rest := [.long y1]) C (c_X9_spelt l D cyI cyZ cyW 98 114 97 115 115 0 0 y5 hy6) gX9_verb_X9_spelt rfl hyS_X9_spelt ⟨rfl, rfl, (Nat.le_of_ble_eq_true rfl), (Nat.le_of_ble_eq_true rfl)⟩ rfl [] rfl rfl rfl (Nat.le_of_ble_eq_true rfl) ⟨Nat.zero_le _, Nat.zero_le _⟩ dX9_verb_39 ?_
    refine r_lcmp C dX9_verb_42 ?_
    refine r_if_ne C 48 dX9_verb_43 (by decide) hf (fun hf => ?_) (fun hf => ?_)
    · refine r_lload_n C dX9_verb_48 rfl 0 rfl ?_
      refine r_bipush C 112 dX9_verb_49 (by decide) ?_
      refine r_bipush C 101 dX9_verb_51 (by decide) ?_
      refine r_bipush C 97 dX9_verb_53 (by decide) ?_
      refine r_bipush C 114 dX9_verb_55 (by decide) ?_
      refine r_bipush C 108 dX9_verb_57 (by decide) ?_
      refine r_iconst C 0 dX9_verb_59 (by decide) ?_
      refine r_iconst C 0 dX9_verb_60 (by decide) ?_
      obtain ⟨y7, hy8, hf⟩ := bd_some hf
      refine r_roS_l (As := [.int 112, .int 101, .int 97, .int 114, .int 108, .int 0, .int 0]) (rest := [.long y1]) C (c_X9_spelt l D cyI cyZ cyW 112 101 97 114 108 0 0 y7 hy8) gX9_verb_X9_spelt rfl hyS_X9_spelt ⟨rfl, rfl, (Nat.le_of_ble_eq_true rfl), (Nat.le_of_ble_eq_true rfl)⟩ rfl [] rfl rfl rfl (Nat.le_of_ble_eq_true rfl) ⟨Nat.zero_le _, Nat.zero_le _⟩ dX9_verb_61 ?_
      refine r_lcmp C dX9_verb_64 ?_
      refine r_if_ne C 70 dX9_verb_65 (by decide) hf (fun hf => ?_) (fun hf => ?_)
      · refine r_lload_n C dX9_verb_70 rfl 0 rfl ?_
        refine r_bipush C 108 dX9_verb_71 (by decide) ?_
        refine r_bipush C 111 dX9_verb_73 (by decide) ?_
        refine r_bipush C 111 dX9_verb_75 (by decide) ?_
        refine r_bipush C 115 dX9_verb_77 (by decide) ?_
        refine r_bipush C 101 dX9_verb_79 (by decide) ?_
        refine r_iconst C 0 dX9_verb_81 (by decide) ?_
        refine r_iconst C 0 dX9_verb_82 (by decide) ?_
        obtain ⟨y9, hy10, hf⟩ := bd_some hf
        refine r_roS_l (As := [.int 108, .int 111, .int 111, .int 115, .int 101, .int 0, .int 0]) (rest := [.long y1]) C (c_X9_spelt l D cyI cyZ cyW 108 111 111 115 101 0 0 y9 hy10) gX9_verb_X9_spelt rfl hyS_X9_spelt ⟨rfl, rfl, (Nat.le_of_ble_eq_true rfl), (Nat.le_of_ble_eq_true rfl)⟩ rfl [] rfl rfl rfl (Nat.le_of_ble_eq_true rfl) ⟨Nat.zero_le _, Nat.zero_le _⟩ dX9_verb_83 ?_
        refine r_lcmp C dX9_verb_86 ?_
        refine r_if_ne C 92 dX9_verb_87 (by decide) hf (fun hf => ?_) (fun hf => ?_)
        · refine r_lload_n C dX9_verb_92 rfl 0 rfl ?_
          refine r_bipush C 99 dX9_verb_93 (by decide) ?_
          refine r_bipush C 111 dX9_verb_95 (by decide) ?_
          refine r_bipush C 97 dX9_verb_97 (by decide) ?_
          refine r_bipush C 116 dX9_verb_99 (by decide) ?_
          refine r_iconst C 0 dX9_verb_101 (by decide) ?_
          refine r_iconst C 0 dX9_verb_102 (by decide) ?_
          refine r_iconst C 0 dX9_verb_103 (by decide) ?_
          obtain ⟨y11, hy12, hf⟩ := bd_some hf
          refine r_roS_l (As := [.int 99, .int 111, .int 97, .int 116, .int 0, .int 0, .int 0]) (rest := [.long y1]) C (c_X9_spelt l D cyI cyZ cyW 99 111 97 116 0 0 0 y11 hy12) gX9_verb_X9_spelt rfl hyS_X9_spelt ⟨rfl, rfl, (Nat.le_of_ble_eq_true rfl), (Nat.le_of_ble_eq_true rfl)⟩ rfl [] rfl rfl rfl (Nat.le_of_ble_eq_true rfl) ⟨Nat.zero_le _, Nat.zero_le _⟩ dX9_verb_104 ?_
          refine r_lcmp C dX9_verb_107 ?_
          refine r_if_ne C 113 dX9_verb_108 (by decide) hf (fun hf => ?_) (fun hf => ?_)
          · refine r_lload_n C dX9_verb_113 rfl 0 rfl ?_
            refine r_bipush C 102 dX9_verb_114 (by decide) ?_
            refine r_bipush C 97 dX9_verb_116 (by decide) ?_
            refine r_bipush C 118 dX9_verb_118 (by decide) ?_
            refine r_bipush C 111 dX9_verb_120 (by decide) ?_
            refine r_bipush C 117 dX9_verb_122 (by decide) ?_
            refine r_bipush C 114 dX9_verb_124 (by decide) ?_
            refine r_iconst C 0 dX9_verb_126 (by decide) ?_
            obtain ⟨y13, hy14, hf⟩ := bd_some hf
            refine r_roS_l (As := [.int 102, .int 97, .int 118, .int 111, .int 117, .int 114, .int 0]) (rest := [.long y1]) C (c_X9_spelt l D cyI cyZ cyW 102 97 118 111 117 114 0 y13 hy14) gX9_verb_X9_spelt rfl hyS_X9_spelt ⟨rfl, rfl, (Nat.le_of_ble_eq_true rfl), (Nat.le_of_ble_eq_true rfl)⟩ rfl [] rfl rfl rfl (Nat.le_of_ble_eq_true rfl) ⟨Nat.zero_le _, Nat.zero_le _⟩ dX9_verb_127 ?_
            refine r_lcmp C dX9_verb_130 ?_
            refine r_if_ne C 136 dX9_verb_131 (by decide) hf (fun hf => ?_) (fun hf => ?_)
            · refine r_lload_n C dX9_verb_136 rfl 0 rfl ?_
              refine r_bipush C 102 dX9_verb_137 (by decide) ?_
              refine r_bipush C 101 dX9_verb_139 (by decide) ?_
              refine r_bipush C 117 dX9_verb_141 (by decide) ?_
              refine r_bipush C 100 dX9_verb_143 (by decide) ?_
              refine r_iconst C 0 dX9_verb_145 (by decide) ?_
              refine r_iconst C 0 dX9_verb_146 (by decide) ?_
              refine r_iconst C 0 dX9_verb_147 (by decide) ?_
              obtain ⟨y15, hy16, hf⟩ := bd_some hf
              refine r_roS_l (As := [.int 102, .int 101, .int 117, .int 100, .int 0, .int 0, .int 0]) (rest := [.long y1]) C (c_X9_spelt l D cyI cyZ cyW 102 101 117 100 0 0 0 y15 hy16) gX9_verb_X9_spelt rfl hyS_X9_spelt ⟨rfl, rfl, (Nat.le_of_ble_eq_true rfl), (Nat.le_of_ble_eq_true rfl)⟩ rfl [] rfl rfl rfl (Nat.le_of_ble_eq_true rfl) ⟨Nat.zero_le _, Nat.zero_le _⟩ dX9_verb_148 ?_
              refine r_lcmp C dX9_verb_151 ?_
              refine r_if_ne C 158 dX9_verb_152 (by decide) hf (fun hf => ?_) (fun hf => ?_)
              · refine r_lload_n C dX9_verb_158 rfl 0 rfl ?_
                refine r_bipush C 113 dX9_verb_159 (by decide) ?_
                refine r_bipush C 117 dX9_verb_161 (by decide) ?_
                refine r_bipush C 111 dX9_verb_163 (by decide) ?_
                refine r_bipush C 116 dX9_verb_165 (by decide) ?_
                refine r_bipush C 97 dX9_verb_167 (by decide) ?_
                refine r_iconst C 0 dX9_verb_169 (by decide) ?_
                refine r_iconst C 0 dX9_verb_170 (by decide) ?_
                obtain ⟨y17, hy18, hf⟩ := bd_some hf
                refine r_roS_l (As := [.int 113, .int 117, .int 111, .int 116, .int 97, .int 0, .int 0]) (rest := [.long y1]) C (c_X9_spelt l D cyI cyZ cyW 113 117 111 116 97 0 0 y17 hy18) gX9_verb_X9_spelt rfl hyS_X9_spelt ⟨rfl, rfl, (Nat.le_of_ble_eq_true rfl), (Nat.le_of_ble_eq_true rfl)⟩ rfl [] rfl rfl rfl (Nat.le_of_ble_eq_true rfl) ⟨Nat.zero_le _, Nat.zero_le _⟩ dX9_verb_171 ?_
                refine r_lcmp C dX9_verb_174 ?_
                refine r_if_ne C 181 dX9_verb_175 (by decide) hf (fun hf => ?_) (fun hf => ?_)
                · refine r_lload_n C dX9_verb_181 rfl 0 rfl ?_
                  refine r_bipush C 99 dX9_verb_182 (by decide) ?_
                  refine r_bipush C 111 dX9_verb_184 (by decide) ?_
                  refine r_bipush C 108 dX9_verb_186 (by decide) ?_
                  refine r_bipush C 100 dX9_verb_188 (by decide) ?_
                  refine r_iconst C 0 dX9_verb_190 (by decide) ?_
                  refine r_iconst C 0 dX9_verb_191 (by decide) ?_
                  refine r_iconst C 0 dX9_verb_192 (by decide) ?_
                  obtain ⟨y19, hy20, hf⟩ := bd_some hf
                  refine r_roS_l (As := [.int 99, .int 111, .int 108, .int 100, .int 0, .int 0, .int 0]) (rest := [.long y1]) C (c_X9_spelt l D cyI cyZ cyW 99 111 108 100 0 0 0 y19 hy20) gX9_verb_X9_spelt rfl hyS_X9_spelt ⟨rfl, rfl, (Nat.le_of_ble_eq_true rfl), (Nat.le_of_ble_eq_true rfl)⟩ rfl [] rfl rfl rfl (Nat.le_of_ble_eq_true rfl) ⟨Nat.zero_le _, Nat.zero_le _⟩ dX9_verb_193 ?_
                  refine r_lcmp C dX9_verb_196 ?_
                  refine r_if_ne C 205 dX9_verb_197 (by decide) hf (fun hf => ?_) (fun hf => ?_)
                  · refine r_lload_n C dX9_verb_205 rfl 0 rfl ?_
                    refine r_bipush C 109 dX9_verb_206 (by decide) ?_
                    refine r_bipush C 105 dX9_verb_208 (by decide) ?_
                    refine r_bipush C 108 dX9_verb_210 (by decide) ?_
                    refine r_bipush C 100 dX9_verb_212 (by decide) ?_
                    refine r_iconst C 0 dX9_verb_214 (by decide) ?_
                    refine r_iconst C 0 dX9_verb_215 (by decide) ?_
                    refine r_iconst C 0 dX9_verb_216 (by decide) ?_
                    obtain ⟨y21, hy22, hf⟩ := bd_some hf
                    refine r_roS_l (As := [.int 109, .int 105, .int 108, .int 100, .int 0, .int 0, .int 0]) (rest := [.long y1]) C (c_X9_spelt l D cyI cyZ cyW 109 105 108 100 0 0 0 y21 hy22) gX9_verb_X9_spelt rfl hyS_X9_spelt ⟨rfl, rfl, (Nat.le_of_ble_eq_true rfl), (Nat.le_of_ble_eq_true rfl)⟩ rfl [] rfl rfl rfl (Nat.le_of_ble_eq_true rfl) ⟨Nat.zero_le _, Nat.zero_le _⟩ dX9_verb_217 ?_
                    refine r_lcmp C dX9_verb_220 ?_
                    refine r_if_ne C 229 dX9_verb_221 (by decide) hf (fun hf => ?_) (fun hf => ?_)
                    · refine r_iconst C (-1) dX9_verb_229 (by decide) ?_
                      rw [← Option.some.inj hf]
                      exact r_iret C hr hlk dX9_verb_230
                    · refine r_bipush C 9 dX9_verb_224 (by decide) ?_
                      refine r_goto C 230 dX9_verb_226 (by decide) ?_
                      rw [← Option.some.inj hf]
                      exact r_iret C hr hlk dX9_verb_230
                  · refine r_bipush C 8 dX9_verb_200 (by decide) ?_
                    refine r_goto C 230 dX9_verb_202 (by decide) ?_
                    rw [← Option.some.inj hf]
                    exact r_iret C hr hlk dX9_verb_230
                · refine r_bipush C 7 dX9_verb_178 (by decide) ?_
                  rw [← Option.some.inj hf]
                  exact r_iret C hr hlk dX9_verb_180
              · refine r_bipush C 6 dX9_verb_155 (by decide) ?_
                rw [← Option.some.inj hf]
                exact r_iret C hr hlk dX9_verb_157
            · refine r_iconst C 5 dX9_verb_134 (by decide) ?_
              rw [← Option.some.inj hf]
              exact r_iret C hr hlk dX9_verb_135
          · refine r_iconst C 4 dX9_verb_111 (by decide) ?_
            rw [← Option.some.inj hf]
            exact r_iret C hr hlk dX9_verb_112
        · refine r_iconst C 3 dX9_verb_90 (by decide) ?_
          rw [← Option.some.inj hf]
          exact r_iret C hr hlk dX9_verb_91
      · refine r_iconst C 2 dX9_verb_68 (by decide) ?_
        rw [← Option.some.inj hf]
        exact r_iret C hr hlk dX9_verb_69
    · refine r_iconst C 1 dX9_verb_46 (by decide) ?_
      rw [← Option.some.inj hf]
      exact r_iret C hr hlk dX9_verb_47
  · refine r_iconst C 0 dX9_verb_24 (by decide) ?_
    rw [← Option.some.inj hf]
    exact r_iret C hr hlk dX9_verb_25

theorem lk_X9_number_1 : Cond.fieldLink RX9 61 "ParishCoatModel" "token" "I" ∈ wsX9_number := List.mem_of_getElem? (i := 1) rfl
theorem lk_X9_number_2 : Cond.fieldLink RX9 58 "ParishCoatModel" "value" "I" ∈ wsX9_number := List.mem_of_getElem? (i := 2) rfl
theorem in_X9_number_X9 : ∀ w ∈ u_ws RX9 TX9 21, w ∈ wsX9_number := fun _ h => List.mem_cons_of_mem _ (List.mem_append_right _ h)
theorem hyV_X9_nextToken : yX9_nextToken.cls = RX9 ∧ yX9_nextToken.cls ≠ "java/lang/invoke/MethodHandle" ∧ yX9_nextToken.cls ≠ "java/lang/invoke/VarHandle" ∧ (parseMethodDescriptor yX9_nextToken.desc).map (fun d => d.parameters.length) = some 0 := by decide +kernel
theorem hyS_X9_nextToken : yX9_nextToken.cls ≠ "java/lang/invoke/MethodHandle" ∧ yX9_nextToken.cls ≠ "java/lang/invoke/VarHandle" ∧ (parseMethodDescriptor yX9_nextToken.desc).map (fun d => d.parameters.length) = some 0 := by decide +kernel
def f_X9_number (v_this_letters : Int32) (v_this_place : Int32) (v_this_token : Int32) (v_this_value : Int32) (v_this_begins : Int32) (v_this_text : Nat → Int32) (x1 : Int32) (x2 : Int32) : Option (Int32 × Int32 × Int32 × Int32 × Int32) := bd4 (f_X9_nextToken v_this_letters v_this_place v_this_token v_this_value v_this_begins v_this_text) (fun y1_0 y1_1 y1_2 y1_3 => if y1_1 = 2 then ((f_X9_in (Int32.toInt64 y1_2) (Int32.toInt64 x1) (Int32.toInt64 x2)).bind fun y3 => if y3 = 0 then (some ((-1), y1_0, y1_1, y1_2, y1_3)) else (some (y1_2, y1_0, y1_1, y1_2, y1_3))) else (some ((-1), y1_0, y1_1, y1_2, y1_3)))
def w_X9_number (cyI cyZ cyW : ClassId) (a_this : Nat) (a_this_told : Nat) (a_this_st : Nat) (a_this_text : Nat) (v_this_letters : Int32) (v_this_place : Int32) (v_this_token : Int32) (v_this_value : Int32) (v_this_begins : Int32) (a_this_read : Nat) (v_this_clauses : Int32) (a_this_ahead : Nat) (v_this_undoMany : Int32) (a_this_isKept : Nat) (a_this_kept : Nat) (v_this_fewestMany : Int32) (v_this_fewestSets : Int32) (v_this_fewestSet : Int32) (v_this_fewestMost : Int32) (a_this_aside : Nat) (a_this_seens : Nat) (v_this_seenMany : Int32) (v_this_text : Nat → Int32) : va_W := [(a_this, .inr (9, [.ref a_this_told, .ref a_this_st, .ref a_this_text, .int v_this_letters, .int v_this_place, .int v_this_token, .int v_this_value, .int v_this_begins, .ref a_this_read, .int v_this_clauses, .ref a_this_ahead, .int v_this_undoMany, .ref a_this_isKept, .ref a_this_kept, .int v_this_fewestMany, .int v_this_fewestSets, .int v_this_fewestSet, .int v_this_fewestMost, .ref a_this_aside, .ref a_this_seens, .int v_this_seenMany])), (a_this_text, .inl (cyI, 160, .inl v_this_text))]
set_option maxHeartbeats 4000000 in
set_option maxRecDepth 100000 in
theorem c_X9_number (l : Launch) (D : va_G) (cyI cyZ cyW : ClassId) (a_this : Nat) (a_this_told : Nat) (a_this_st : Nat) (a_this_text : Nat) (v_this_letters : Int32) (v_this_place : Int32) (v_this_token : Int32) (v_this_value : Int32) (v_this_begins : Int32) (a_this_read : Nat) (v_this_clauses : Int32) (a_this_ahead : Nat) (v_this_undoMany : Int32) (a_this_isKept : Nat) (a_this_kept : Nat) (v_this_fewestMany : Int32) (v_this_fewestSets : Int32) (v_this_fewestSet : Int32) (v_this_fewestMost : Int32) (a_this_aside : Nat) (a_this_seens : Nat) (v_this_seenMany : Int32) (v_this_text : Nat → Int32) (x1 : Int32) (x2 : Int32) (res : Int32 × Int32 × Int32 × Int32 × Int32) (hf : f_X9_number v_this_letters v_this_place v_this_token v_this_value v_this_begins v_this_text x1 x2 = some res) : ∀ sz, Met l yX9_number wsX9_number { frames := 2, cells := 0, slots := 0, locals := 45 } (PCx D (tyG cyI cyZ cyW) [.ref a_this, .int x1, .int x2] (w_X9_number cyI cyZ cyW a_this a_this_told a_this_st a_this_text v_this_letters v_this_place v_this_token v_this_value v_this_begins a_this_read v_this_clauses a_this_ahead v_this_undoMany a_this_isKept a_this_kept v_this_fewestMany v_this_fewestSets v_this_fewestSet v_this_fewestMost a_this_aside a_this_seens v_this_seenMany v_this_text) sz) (QI D (tyG cyI cyZ cyW) (w_X9_number cyI cyZ cyW a_this a_this_told a_this_st a_this_text v_this_letters v_this_place v_this_token v_this_value v_this_begins a_this_read v_this_clauses a_this_ahead v_this_undoMany a_this_isKept a_this_kept v_this_fewestMany v_this_fewestSets v_this_fewestSet v_this_fewestMost a_this_aside a_this_seens v_this_seenMany v_this_text) sz res.1 (w_X9_number cyI cyZ cyW a_this a_this_told a_this_st a_this_text v_this_letters res.2.1 res.2.2.1 res.2.2.2.1 res.2.2.2.2 a_this_read v_this_clauses a_this_ahead v_this_undoMany a_this_isKept a_this_kept v_this_fewestMany v_this_fewestSets v_this_fewestSet v_this_fewestMost a_this_aside a_this_seens v_this_seenMany v_this_text)) 0 0 (va_A (w_X9_number cyI cyZ cyW a_this a_this_told a_this_st a_this_text v_this_letters v_this_place v_this_token v_this_value v_this_begins a_this_read v_this_clauses a_this_ahead v_this_undoMany a_this_isKept a_this_kept v_this_fewestMany v_this_fewestSets v_this_fewestSet v_this_fewestMost a_this_aside a_this_seens v_this_seenMany v_this_text) sz) := by
  intro sz
  refine met_of (cc := cX9_number) (maxL := 3) (ret := (some .int)) (lv0 := [(0, .ref a_this), (1, .int x1), (2, .int x2)]) (by decide) rfl ⟨(Nat.le_of_ble_eq_true rfl), rfl⟩ ?_
  intro p e s m below meth c C hr hlk hnm hsz
  subst hsz
  have C : CX p s m _ c 3 cX9_number RX9 wsX9_number D (tyG cyI cyZ cyW) _ := C
  refine r_aload_n C dX9_number_0 rfl 0 rfl ?_
  obtain ⟨y1_0, y1_1, y1_2, y1_3, hy2, hf⟩ := bd4_some hf
  refine r_callV_v (As := []) (rest := []) (ws' := (w_X9_number cyI cyZ cyW a_this a_this_told a_this_st a_this_text v_this_letters y1_0 y1_1 y1_2 y1_3 a_this_read v_this_clauses a_this_ahead v_this_undoMany a_this_isKept a_this_kept v_this_fewestMany v_this_fewestSets v_this_fewestSet v_this_fewestMost a_this_aside a_this_seens v_this_seenMany v_this_text)) C (c_X9_nextToken l D cyI cyZ cyW a_this a_this_told a_this_st a_this_text v_this_letters v_this_place v_this_token v_this_value v_this_begins a_this_read v_this_clauses a_this_ahead v_this_undoMany a_this_isKept a_this_kept v_this_fewestMany v_this_fewestSets v_this_fewestSet v_this_fewestMost a_this_aside a_this_seens v_this_seenMany v_this_text (y1_0, y1_1, y1_2, y1_3) hy2) gX9_number_X9_nextToken rfl hyV_X9_nextToken ⟨rfl, rfl, (Nat.le_of_ble_eq_true rfl), (Nat.le_of_ble_eq_true rfl)⟩ rfl 0 rfl rfl [0, 1] rfl rfl rfl rfl rfl (Nat.le_of_ble_eq_true rfl) ⟨Nat.zero_le _, Nat.zero_le _⟩ dX9_number_1 ?_
  refine r_aload_n C dX9_number_4 rfl 0 rfl ?_
  refine r_get C in_X9_number_X9 0 rfl rfl 5 (by decide) lk_X9_number_1 rfl rfl dX9_number_5 ?_
  refine r_iconst C 2 dX9_number_8 (by decide) ?_
  refine r_icmp_ne C 34 dX9_number_9 (by decide) hf (fun hf => ?_) (fun hf => ?_)
  · refine r_iconst C (-1) dX9_number_34 (by decide) ?_
    rw [← Option.some.inj hf]
    exact r_iret C hr hlk dX9_number_35
  · refine r_aload_n C dX9_number_12 rfl 0 rfl ?_
    refine r_get C in_X9_number_X9 0 rfl rfl 6 (by decide) lk_X9_number_2 rfl rfl dX9_number_13 ?_
    refine r_i2l C dX9_number_16 ?_
    refine r_iload_n C dX9_number_17 rfl 1 rfl ?_
    refine r_i2l C dX9_number_18 ?_
    refine r_iload_n C dX9_number_19 rfl 2 rfl ?_
    refine r_i2l C dX9_number_20 ?_
    obtain ⟨y3, hy4, hf⟩ := bd_some hf
    refine r_roS_i (As := [.long (Int32.toInt64 y1_2), .long (Int32.toInt64 x1), .long (Int32.toInt64 x2)]) (rest := []) C (c_X9_in l D cyI cyZ cyW (Int32.toInt64 y1_2) (Int32.toInt64 x1) (Int32.toInt64 x2) y3 hy4) gX9_number_X9_in rfl hyS_X9_in ⟨rfl, rfl, (Nat.le_of_ble_eq_true rfl), (Nat.le_of_ble_eq_true rfl)⟩ rfl [] rfl rfl rfl (Nat.le_of_ble_eq_true rfl) ⟨Nat.zero_le _, Nat.zero_le _⟩ dX9_number_21 ?_
    refine r_if_eq C 34 dX9_number_24 (by decide) hf (fun hf => ?_) (fun hf => ?_)
    · refine r_iconst C (-1) dX9_number_34 (by decide) ?_
      rw [← Option.some.inj hf]
      exact r_iret C hr hlk dX9_number_35
    · refine r_aload_n C dX9_number_27 rfl 0 rfl ?_
      refine r_get C in_X9_number_X9 0 rfl rfl 6 (by decide) lk_X9_number_2 rfl rfl dX9_number_28 ?_
      refine r_goto C 35 dX9_number_31 (by decide) ?_
      rw [← Option.some.inj hf]
      exact r_iret C hr hlk dX9_number_35

theorem lk_X9_readButton_1 : Cond.fieldLink RX9 19 "ParishCoatModel" "read" "[I" ∈ wsX9_readButton := List.mem_of_getElem? (i := 1) rfl
theorem in_X9_readButton_X9 : ∀ w ∈ u_ws RX9 TX9 21, w ∈ wsX9_readButton := fun _ h => List.mem_cons_of_mem _ (List.mem_append_right _ h)
theorem hyV_X9_number : yX9_number.cls = RX9 ∧ yX9_number.cls ≠ "java/lang/invoke/MethodHandle" ∧ yX9_number.cls ≠ "java/lang/invoke/VarHandle" ∧ (parseMethodDescriptor yX9_number.desc).map (fun d => d.parameters.length) = some 2 := by decide +kernel
theorem hyS_X9_number : yX9_number.cls ≠ "java/lang/invoke/MethodHandle" ∧ yX9_number.cls ≠ "java/lang/invoke/VarHandle" ∧ (parseMethodDescriptor yX9_number.desc).map (fun d => d.parameters.length) = some 2 := by decide +kernel
def f_X9_readButton_b38 (v_this_letters : Int32) (v_this_text : Nat → Int32) (x1 : Int32) (x2 : Int32) (x3 : Int32) (s0 : Int32) (v_this_place : Int32) (v_this_token : Int32) (v_this_value : Int32) (v_this_begins : Int32) (v_this_read : Nat → Int32) : Option (Int32 × Int32 × Int32 × Int32 × Int32 × (Nat → Int32)) := if 0 ≤ s0 then (gd_ (3 + x2) 37 (gd_ (10 + x2) 37 (gd_ (17 + x2) 37 (gd_ (24 + x2) 37 (some (1, v_this_place, v_this_token, v_this_value, v_this_begins, (upd (upd (upd (upd (upd v_this_read (Int32.toNatClampNeg (3 + x2)) x1) (Int32.toNatClampNeg (10 + x2)) x3) (Int32.toNatClampNeg (17 + x2)) s0) (Int32.toNatClampNeg (24 + x2)) 0) 0 (((upd (upd (upd (upd v_this_read (Int32.toNatClampNeg (3 + x2)) x1) (Int32.toNatClampNeg (10 + x2)) x3) (Int32.toNatClampNeg (17 + x2)) s0) (Int32.toNatClampNeg (24 + x2)) 0) 0) + 1)))))))) else (some (0, v_this_place, v_this_token, v_this_value, v_this_begins, v_this_read))
def f_X9_readButton (v_this_letters : Int32) (v_this_place : Int32) (v_this_token : Int32) (v_this_value : Int32) (v_this_begins : Int32) (v_this_read : Nat → Int32) (v_this_text : Nat → Int32) (x1 : Int32) : Option (Int32 × Int32 × Int32 × Int32 × Int32 × (Nat → Int32)) := if (v_this_read 0) = 7 then (some (0, v_this_place, v_this_token, v_this_value, v_this_begins, v_this_read)) else (bd5 (f_X9_number v_this_letters v_this_place v_this_token v_this_value v_this_begins v_this_text 1 9) (fun y1_0 y1_1 y1_2 y1_3 y1_4 => if 0 ≤ y1_0 then (bd5 (f_X9_number v_this_letters y1_1 y1_2 y1_3 y1_4 v_this_text 0 99) (fun y3_0 y3_1 y3_2 y3_3 y3_4 => f_X9_readButton_b38 v_this_letters v_this_text x1 (v_this_read 0) y1_0 y3_0 y3_1 y3_2 y3_3 y3_4 v_this_read)) else (f_X9_readButton_b38 v_this_letters v_this_text x1 (v_this_read 0) y1_0 (-1) y1_1 y1_2 y1_3 y1_4 v_this_read)))
def w_X9_readButton (cyI cyZ cyW : ClassId) (a_this : Nat) (a_this_told : Nat) (a_this_st : Nat) (a_this_text : Nat) (v_this_letters : Int32) (v_this_place : Int32) (v_this_token : Int32) (v_this_value : Int32) (v_this_begins : Int32) (a_this_read : Nat) (v_this_clauses : Int32) (a_this_ahead : Nat) (v_this_undoMany : Int32) (a_this_isKept : Nat) (a_this_kept : Nat) (v_this_fewestMany : Int32) (v_this_fewestSets : Int32) (v_this_fewestSet : Int32) (v_this_fewestMost : Int32) (a_this_aside : Nat) (a_this_seens : Nat) (v_this_seenMany : Int32) (v_this_read : Nat → Int32) (v_this_text : Nat → Int32) : va_W := [(a_this, .inr (9, [.ref a_this_told, .ref a_this_st, .ref a_this_text, .int v_this_letters, .int v_this_place, .int v_this_token, .int v_this_value, .int v_this_begins, .ref a_this_read, .int v_this_clauses, .ref a_this_ahead, .int v_this_undoMany, .ref a_this_isKept, .ref a_this_kept, .int v_this_fewestMany, .int v_this_fewestSets, .int v_this_fewestSet, .int v_this_fewestMost, .ref a_this_aside, .ref a_this_seens, .int v_this_seenMany])), (a_this_read, .inl (cyI, 37, .inl v_this_read)), (a_this_text, .inl (cyI, 160, .inl v_this_text))]
set_option maxHeartbeats 4000000 in
set_option maxRecDepth 100000 in
theorem c_X9_readButton (l : Launch) (D : va_G) (cyI cyZ cyW : ClassId) (a_this : Nat) (a_this_told : Nat) (a_this_st : Nat) (a_this_text : Nat) (v_this_letters : Int32) (v_this_place : Int32) (v_this_token : Int32) (v_this_value : Int32) (v_this_begins : Int32) (a_this_read : Nat) (v_this_clauses : Int32) (a_this_ahead : Nat) (v_this_undoMany : Int32) (a_this_isKept : Nat) (a_this_kept : Nat) (v_this_fewestMany : Int32) (v_this_fewestSets : Int32) (v_this_fewestSet : Int32) (v_this_fewestMost : Int32) (a_this_aside : Nat) (a_this_seens : Nat) (v_this_seenMany : Int32) (v_this_read : Nat → Int32) (v_this_text : Nat → Int32) (x1 : Int32) (res : Int32 × Int32 × Int32 × Int32 × Int32 × (Nat → Int32)) (hf : f_X9_readButton v_this_letters v_this_place v_this_token v_this_value v_this_begins v_this_read v_this_text x1 = some res) : ∀ sz, Met l yX9_readButton wsX9_readButton { frames := 3, cells := 0, slots := 0, locals := 67 } (PCx D (tyG cyI cyZ cyW) [.ref a_this, .int x1] (w_X9_readButton cyI cyZ cyW a_this a_this_told a_this_st a_this_text v_this_letters v_this_place v_this_token v_this_value v_this_begins a_this_read v_this_clauses a_this_ahead v_this_undoMany a_this_isKept a_this_kept v_this_fewestMany v_this_fewestSets v_this_fewestSet v_this_fewestMost a_this_aside a_this_seens v_this_seenMany v_this_read v_this_text) sz) (QI D (tyG cyI cyZ cyW) (w_X9_readButton cyI cyZ cyW a_this a_this_told a_this_st a_this_text v_this_letters v_this_place v_this_token v_this_value v_this_begins a_this_read v_this_clauses a_this_ahead v_this_undoMany a_this_isKept a_this_kept v_this_fewestMany v_this_fewestSets v_this_fewestSet v_this_fewestMost a_this_aside a_this_seens v_this_seenMany v_this_read v_this_text) sz res.1 (w_X9_readButton cyI cyZ cyW a_this a_this_told a_this_st a_this_text v_this_letters res.2.1 res.2.2.1 res.2.2.2.1 res.2.2.2.2.1 a_this_read v_this_clauses a_this_ahead v_this_undoMany a_this_isKept a_this_kept v_this_fewestMany v_this_fewestSets v_this_fewestSet v_this_fewestMost a_this_aside a_this_seens v_this_seenMany res.2.2.2.2.2 v_this_text)) 0 0 (va_A (w_X9_readButton cyI cyZ cyW a_this a_this_told a_this_st a_this_text v_this_letters v_this_place v_this_token v_this_value v_this_begins a_this_read v_this_clauses a_this_ahead v_this_undoMany a_this_isKept a_this_kept v_this_fewestMany v_this_fewestSets v_this_fewestSet v_this_fewestMost a_this_aside a_this_seens v_this_seenMany v_this_read v_this_text) sz) := by
  intro sz
  refine met_of (cc := cX9_readButton) (maxL := 5) (ret := (some .boolean)) (lv0 := [(0, .ref a_this), (1, .int x1)]) (by decide) rfl ⟨(Nat.le_of_ble_eq_true rfl), rfl⟩ ?_
  intro p e s m below meth c C hr hlk hnm hsz
  subst hsz
  have C : CX p s m _ c 5 cX9_readButton RX9 wsX9_readButton D (tyG cyI cyZ cyW) _ := C
  obtain ⟨Z, hZ⟩ : ∃ Z : va_W → Nat → LV → List Value → Prop, Z = ST p l e { frames := 3, cells := 0, slots := 0, locals := 67 } s m [.ref a_this, .int x1].toArray below meth c 5 D (va_A (w_X9_readButton cyI cyZ cyW a_this a_this_told a_this_st a_this_text v_this_letters v_this_place v_this_token v_this_value v_this_begins a_this_read v_this_clauses a_this_ahead v_this_undoMany a_this_isKept a_this_kept v_this_fewestMany v_this_fewestSets v_this_fewestSet v_this_fewestMost a_this_aside a_this_seens v_this_seenMany v_this_read v_this_text) s.heap.size) (MQ below (QI D (tyG cyI cyZ cyW) (w_X9_readButton cyI cyZ cyW a_this a_this_told a_this_st a_this_text v_this_letters v_this_place v_this_token v_this_value v_this_begins a_this_read v_this_clauses a_this_ahead v_this_undoMany a_this_isKept a_this_kept v_this_fewestMany v_this_fewestSets v_this_fewestSet v_this_fewestMost a_this_aside a_this_seens v_this_seenMany v_this_read v_this_text) s.heap.size res.1 (w_X9_readButton cyI cyZ cyW a_this a_this_told a_this_st a_this_text v_this_letters res.2.1 res.2.2.1 res.2.2.2.1 res.2.2.2.2.1 a_this_read v_this_clauses a_this_ahead v_this_undoMany a_this_isKept a_this_kept v_this_fewestMany v_this_fewestSets v_this_fewestSet v_this_fewestMost a_this_aside a_this_seens v_this_seenMany res.2.2.2.2.2 v_this_text)) [.ref a_this, .int x1].toArray s 0 0 (va_A (w_X9_readButton cyI cyZ cyW a_this a_this_told a_this_st a_this_text v_this_letters v_this_place v_this_token v_this_value v_this_begins a_this_read v_this_clauses a_this_ahead v_this_undoMany a_this_isKept a_this_kept v_this_fewestMany v_this_fewestSets v_this_fewestSet v_this_fewestMost a_this_aside a_this_seens v_this_seenMany v_this_read v_this_text) s.heap.size)) 0 0 := ⟨_, rfl⟩
  have hb_38 : ∀ (x1 : Int32) (x2 : Int32) (x3 : Int32) (s0 : Int32) (v_this_place : Int32) (v_this_token : Int32) (v_this_value : Int32) (v_this_begins : Int32) (v_this_read : Nat → Int32), f_X9_readButton_b38 v_this_letters v_this_text x1 x2 x3 s0 v_this_place v_this_token v_this_value v_this_begins v_this_read = some res → Z (w_X9_readButton cyI cyZ cyW a_this a_this_told a_this_st a_this_text v_this_letters v_this_place v_this_token v_this_value v_this_begins a_this_read v_this_clauses a_this_ahead v_this_undoMany a_this_isKept a_this_kept v_this_fewestMany v_this_fewestSets v_this_fewestSet v_this_fewestMost a_this_aside a_this_seens v_this_seenMany v_this_read v_this_text) 38 [(0, .ref a_this), (1, .int x1), (2, .int x2), (3, .int x3)] [.int s0] := by
    subst hZ
    intro x1 x2 x3 s0 v_this_place v_this_token v_this_value v_this_begins v_this_read hf
    refine r_istore (lv' := [(4, .int s0), (0, .ref a_this), (1, .int x1), (2, .int x2), (3, .int x3)]) C dX9_readButton_38 (by decide) rfl ?_
    refine r_iload C dX9_readButton_40 0 rfl ?_
    refine r_if_ge C 47 dX9_readButton_42 (by decide) hf (fun hf => ?_) (fun hf => ?_)
    · refine r_aload_n C dX9_readButton_47 rfl 1 rfl ?_
      refine r_get C in_X9_readButton_X9 0 rfl rfl 8 (by decide) lk_X9_readButton_1 rfl rfl dX9_readButton_48 ?_
      refine r_iconst C 3 dX9_readButton_51 (by decide) ?_
      refine r_iload_n C dX9_readButton_52 rfl 3 rfl ?_
      refine r_iadd C dX9_readButton_53 ?_
      refine r_iload_n C dX9_readButton_54 rfl 2 rfl ?_
      obtain ⟨hi5, hf⟩ := gd_some hf
      refine r_iast (ws' := (w_X9_readButton cyI cyZ cyW a_this a_this_told a_this_st a_this_text v_this_letters v_this_place v_this_token v_this_value v_this_begins a_this_read v_this_clauses a_this_ahead v_this_undoMany a_this_isKept a_this_kept v_this_fewestMany v_this_fewestSets v_this_fewestSet v_this_fewestMost a_this_aside a_this_seens v_this_seenMany (upd v_this_read (Int32.toNatClampNeg (3 + x2)) x1) v_this_text)) C 1 0 rfl rfl hi5 rfl dX9_readButton_55 ?_
      refine r_aload_n C dX9_readButton_56 rfl 1 rfl ?_
      refine r_get C in_X9_readButton_X9 0 rfl rfl 8 (by decide) lk_X9_readButton_1 rfl rfl dX9_readButton_57 ?_
      refine r_bipush C 10 dX9_readButton_60 (by decide) ?_
      refine r_iload_n C dX9_readButton_62 rfl 3 rfl ?_
      refine r_iadd C dX9_readButton_63 ?_
      refine r_iload_n C dX9_readButton_64 rfl 4 rfl ?_
      obtain ⟨hi6, hf⟩ := gd_some hf
      refine r_iast (ws' := (w_X9_readButton cyI cyZ cyW a_this a_this_told a_this_st a_this_text v_this_letters v_this_place v_this_token v_this_value v_this_begins a_this_read v_this_clauses a_this_ahead v_this_undoMany a_this_isKept a_this_kept v_this_fewestMany v_this_fewestSets v_this_fewestSet v_this_fewestMost a_this_aside a_this_seens v_this_seenMany (upd (upd v_this_read (Int32.toNatClampNeg (3 + x2)) x1) (Int32.toNatClampNeg (10 + x2)) x3) v_this_text)) C 1 0 rfl rfl hi6 rfl dX9_readButton_65 ?_
      refine r_aload_n C dX9_readButton_66 rfl 1 rfl ?_
      refine r_get C in_X9_readButton_X9 0 rfl rfl 8 (by decide) lk_X9_readButton_1 rfl rfl dX9_readButton_67 ?_
      refine r_bipush C 17 dX9_readButton_70 (by decide) ?_
      refine r_iload_n C dX9_readButton_72 rfl 3 rfl ?_
      refine r_iadd C dX9_readButton_73 ?_
      refine r_iload C dX9_readButton_74 0 rfl ?_
      obtain ⟨hi7, hf⟩ := gd_some hf
      refine r_iast (ws' := (w_X9_readButton cyI cyZ cyW a_this a_this_told a_this_st a_this_text v_this_letters v_this_place v_this_token v_this_value v_this_begins a_this_read v_this_clauses a_this_ahead v_this_undoMany a_this_isKept a_this_kept v_this_fewestMany v_this_fewestSets v_this_fewestSet v_this_fewestMost a_this_aside a_this_seens v_this_seenMany (upd (upd (upd v_this_read (Int32.toNatClampNeg (3 + x2)) x1) (Int32.toNatClampNeg (10 + x2)) x3) (Int32.toNatClampNeg (17 + x2)) s0) v_this_text)) C 1 0 rfl rfl hi7 rfl dX9_readButton_76 ?_
      refine r_aload_n C dX9_readButton_77 rfl 1 rfl ?_
      refine r_get C in_X9_readButton_X9 0 rfl rfl 8 (by decide) lk_X9_readButton_1 rfl rfl dX9_readButton_78 ?_
      refine r_bipush C 24 dX9_readButton_81 (by decide) ?_
      refine r_iload_n C dX9_readButton_83 rfl 3 rfl ?_
      refine r_iadd C dX9_readButton_84 ?_
      refine r_iconst C 0 dX9_readButton_85 (by decide) ?_
      obtain ⟨hi8, hf⟩ := gd_some hf
      refine r_iast (ws' := (w_X9_readButton cyI cyZ cyW a_this a_this_told a_this_st a_this_text v_this_letters v_this_place v_this_token v_this_value v_this_begins a_this_read v_this_clauses a_this_ahead v_this_undoMany a_this_isKept a_this_kept v_this_fewestMany v_this_fewestSets v_this_fewestSet v_this_fewestMost a_this_aside a_this_seens v_this_seenMany (upd (upd (upd (upd v_this_read (Int32.toNatClampNeg (3 + x2)) x1) (Int32.toNatClampNeg (10 + x2)) x3) (Int32.toNatClampNeg (17 + x2)) s0) (Int32.toNatClampNeg (24 + x2)) 0) v_this_text)) C 1 0 rfl rfl hi8 rfl dX9_readButton_86 ?_
      refine r_aload_n C dX9_readButton_87 rfl 1 rfl ?_
      refine r_get C in_X9_readButton_X9 0 rfl rfl 8 (by decide) lk_X9_readButton_1 rfl rfl dX9_readButton_88 ?_
      refine r_iconst C 0 dX9_readButton_91 (by decide) ?_
      refine r_dup2_11 C dX9_readButton_92 rfl rfl ?_
      refine r_iald_k C 0 1 0 rfl rfl (kk_ 0 37 (by decide) (by decide)) dX9_readButton_93 ?_
      refine r_iconst C 1 dX9_readButton_94 (by decide) ?_
      refine r_iadd C dX9_readButton_95 ?_
      refine r_iast_k (ws' := (w_X9_readButton cyI cyZ cyW a_this a_this_told a_this_st a_this_text v_this_letters v_this_place v_this_token v_this_value v_this_begins a_this_read v_this_clauses a_this_ahead v_this_undoMany a_this_isKept a_this_kept v_this_fewestMany v_this_fewestSets v_this_fewestSet v_this_fewestMost a_this_aside a_this_seens v_this_seenMany (upd (upd (upd (upd (upd v_this_read (Int32.toNatClampNeg (3 + x2)) x1) (Int32.toNatClampNeg (10 + x2)) x3) (Int32.toNatClampNeg (17 + x2)) s0) (Int32.toNatClampNeg (24 + x2)) 0) 0 (((upd (upd (upd (upd v_this_read (Int32.toNatClampNeg (3 + x2)) x1) (Int32.toNatClampNeg (10 + x2)) x3) (Int32.toNatClampNeg (17 + x2)) s0) (Int32.toNatClampNeg (24 + x2)) 0) 0) + 1)) v_this_text)) C 0 1 0 rfl rfl (kk_ 0 37 (by decide) (by decide)) rfl dX9_readButton_96 ?_
      refine r_iconst C 1 dX9_readButton_97 (by decide) ?_
      rw [← Option.some.inj hf]
      exact r_zret (r := 1) C hr hlk rfl dX9_readButton_98
    · refine r_iconst C 0 dX9_readButton_45 (by decide) ?_
      rw [← Option.some.inj hf]
      exact r_zret (r := 0) C hr hlk rfl dX9_readButton_46
  subst hZ
  refine r_aload_n C dX9_readButton_0 rfl 0 rfl ?_
  refine r_get C in_X9_readButton_X9 0 rfl rfl 8 (by decide) lk_X9_readButton_1 rfl rfl dX9_readButton_1 ?_
  refine r_iconst C 0 dX9_readButton_4 (by decide) ?_
  refine r_iald_k C 0 1 0 rfl rfl (kk_ 0 37 (by decide) (by decide)) dX9_readButton_5 ?_
  refine r_istore_n (lv' := [(2, .int (v_this_read 0)), (0, .ref a_this), (1, .int x1)]) C dX9_readButton_6 rfl (by decide) rfl ?_
  refine r_iload_n C dX9_readButton_7 rfl 0 rfl ?_
  refine r_bipush C 7 dX9_readButton_8 (by decide) ?_
  refine r_icmp_ne C 15 dX9_readButton_10 (by decide) hf (fun hf => ?_) (fun hf => ?_)
  · refine r_aload_n C dX9_readButton_15 rfl 1 rfl ?_
    refine r_iconst C 1 dX9_readButton_16 (by decide) ?_
    refine r_bipush C 9 dX9_readButton_17 (by decide) ?_
    obtain ⟨y1_0, y1_1, y1_2, y1_3, y1_4, hy2, hf⟩ := bd5_some hf
    refine r_callV_i (As := [.int 1, .int 9]) (rest := []) (ws' := (w_X9_readButton cyI cyZ cyW a_this a_this_told a_this_st a_this_text v_this_letters y1_1 y1_2 y1_3 y1_4 a_this_read v_this_clauses a_this_ahead v_this_undoMany a_this_isKept a_this_kept v_this_fewestMany v_this_fewestSets v_this_fewestSet v_this_fewestMost a_this_aside a_this_seens v_this_seenMany v_this_read v_this_text)) C (c_X9_number l D cyI cyZ cyW a_this a_this_told a_this_st a_this_text v_this_letters v_this_place v_this_token v_this_value v_this_begins a_this_read v_this_clauses a_this_ahead v_this_undoMany a_this_isKept a_this_kept v_this_fewestMany v_this_fewestSets v_this_fewestSet v_this_fewestMost a_this_aside a_this_seens v_this_seenMany v_this_text 1 9 (y1_0, y1_1, y1_2, y1_3, y1_4) hy2) gX9_readButton_X9_number rfl hyV_X9_number ⟨rfl, rfl, (Nat.le_of_ble_eq_true rfl), (Nat.le_of_ble_eq_true rfl)⟩ rfl 0 rfl rfl [0, 2] rfl rfl rfl rfl rfl (Nat.le_of_ble_eq_true rfl) ⟨Nat.zero_le _, Nat.zero_le _⟩ dX9_readButton_19 ?_
    refine r_istore_n (lv' := [(3, .int y1_0), (2, .int (v_this_read 0)), (0, .ref a_this), (1, .int x1)]) C dX9_readButton_22 rfl (by decide) rfl ?_
    refine r_iload_n C dX9_readButton_23 rfl 0 rfl ?_
    refine r_if_ge C 31 dX9_readButton_24 (by decide) hf (fun hf => ?_) (fun hf => ?_)
    · refine r_aload_n C dX9_readButton_31 rfl 2 rfl ?_
      refine r_iconst C 0 dX9_readButton_32 (by decide) ?_
      refine r_bipush C 99 dX9_readButton_33 (by decide) ?_
      obtain ⟨y3_0, y3_1, y3_2, y3_3, y3_4, hy4, hf⟩ := bd5_some hf
      refine r_callV_i (As := [.int 0, .int 99]) (rest := []) (ws' := (w_X9_readButton cyI cyZ cyW a_this a_this_told a_this_st a_this_text v_this_letters y3_1 y3_2 y3_3 y3_4 a_this_read v_this_clauses a_this_ahead v_this_undoMany a_this_isKept a_this_kept v_this_fewestMany v_this_fewestSets v_this_fewestSet v_this_fewestMost a_this_aside a_this_seens v_this_seenMany v_this_read v_this_text)) C (c_X9_number l D cyI cyZ cyW a_this a_this_told a_this_st a_this_text v_this_letters y1_1 y1_2 y1_3 y1_4 a_this_read v_this_clauses a_this_ahead v_this_undoMany a_this_isKept a_this_kept v_this_fewestMany v_this_fewestSets v_this_fewestSet v_this_fewestMost a_this_aside a_this_seens v_this_seenMany v_this_text 0 99 (y3_0, y3_1, y3_2, y3_3, y3_4) hy4) gX9_readButton_X9_number rfl hyV_X9_number ⟨rfl, rfl, (Nat.le_of_ble_eq_true rfl), (Nat.le_of_ble_eq_true rfl)⟩ rfl 0 rfl rfl [0, 2] rfl rfl rfl rfl rfl (Nat.le_of_ble_eq_true rfl) ⟨Nat.zero_le _, Nat.zero_le _⟩ dX9_readButton_35 ?_
      exact ST_lv [2, 3, 1, 0] rfl (hb_38 x1 (v_this_read 0) y1_0 y3_0 y3_1 y3_2 y3_3 y3_4 v_this_read hf)
    · refine r_iconst C (-1) dX9_readButton_27 (by decide) ?_
      refine r_goto C 38 dX9_readButton_28 (by decide) ?_
      exact ST_lv [2, 3, 1, 0] rfl (hb_38 x1 (v_this_read 0) y1_0 (-1) y1_1 y1_2 y1_3 y1_4 v_this_read hf)
  · refine r_iconst C 0 dX9_readButton_13 (by decide) ?_
    rw [← Option.some.inj hf]
    exact r_zret (r := 0) C hr hlk rfl dX9_readButton_14

theorem lk_X9_readFavour_1 : Cond.fieldLink RX9 19 "ParishCoatModel" "read" "[I" ∈ wsX9_readFavour := List.mem_of_getElem? (i := 1) rfl
theorem in_X9_readFavour_X9 : ∀ w ∈ u_ws RX9 TX9 21, w ∈ wsX9_readFavour := fun _ h => List.mem_cons_of_mem _ (List.mem_append_right _ h)
def f_X9_readFavour_b87 (v_this_letters : Int32) (v_this_text : Nat → Int32) (s0 : Int32) (s1 : Int32) (v_this_place : Int32) (v_this_token : Int32) (v_this_value : Int32) (v_this_begins : Int32) (v_this_read : Nat → Int32) : Option (Int32 × Int32 × Int32 × Int32 × Int32 × (Nat → Int32)) := gd_ s1 37 (some (1, v_this_place, v_this_token, v_this_value, v_this_begins, (upd v_this_read (Int32.toNatClampNeg s1) s0)))
def f_X9_readFavour_b35 (v_this_letters : Int32) (v_this_text : Nat → Int32) (x1 : Int32) (x2 : Int32) (s0 : Int32) (v_this_place : Int32) (v_this_token : Int32) (v_this_value : Int32) (v_this_begins : Int32) (v_this_read : Nat → Int32) : Option (Int32 × Int32 × Int32 × Int32 × Int32 × (Nat → Int32)) := if s0 < 0 then (some (0, v_this_place, v_this_token, v_this_value, v_this_begins, v_this_read)) else (if x2 = s0 then (some (0, v_this_place, v_this_token, v_this_value, v_this_begins, v_this_read)) else (gd_ (24 + x2) 37 (if x1 = 0 then (f_X9_readFavour_b87 v_this_letters v_this_text ((v_this_read (Int32.toNatClampNeg (24 + x2))) &&& (((1 : Int32) <<< (s0 &&& 31)) ^^^ (-1))) (24 + x2) v_this_place v_this_token v_this_value v_this_begins v_this_read) else (f_X9_readFavour_b87 v_this_letters v_this_text (((v_this_read (Int32.toNatClampNeg (24 + x2))) &&& (((1 : Int32) <<< (s0 &&& 31)) ^^^ (-1))) ||| ((1 : Int32) <<< (s0 &&& 31))) (24 + x2) v_this_place v_this_token v_this_value v_this_begins v_this_read))))
def f_X9_readFavour (v_this_letters : Int32) (v_this_place : Int32) (v_this_token : Int32) (v_this_value : Int32) (v_this_begins : Int32) (v_this_read : Nat → Int32) (v_this_text : Nat → Int32) (x1 : Int32) : Option (Int32 × Int32 × Int32 × Int32 × Int32 × (Nat → Int32)) := bd5 (f_X9_number v_this_letters v_this_place v_this_token v_this_value v_this_begins v_this_text 0 ((v_this_read 0) - 1)) (fun y1_0 y1_1 y1_2 y1_3 y1_4 => if 0 ≤ y1_0 then (bd5 (f_X9_number v_this_letters y1_1 y1_2 y1_3 y1_4 v_this_text 0 ((v_this_read 0) - 1)) (fun y3_0 y3_1 y3_2 y3_3 y3_4 => f_X9_readFavour_b35 v_this_letters v_this_text x1 y1_0 y3_0 y3_1 y3_2 y3_3 y3_4 v_this_read)) else (f_X9_readFavour_b35 v_this_letters v_this_text x1 y1_0 (-1) y1_1 y1_2 y1_3 y1_4 v_this_read))
def w_X9_readFavour (cyI cyZ cyW : ClassId) (a_this : Nat) (a_this_told : Nat) (a_this_st : Nat) (a_this_text : Nat) (v_this_letters : Int32) (v_this_place : Int32) (v_this_token : Int32) (v_this_value : Int32) (v_this_begins : Int32) (a_this_read : Nat) (v_this_clauses : Int32) (a_this_ahead : Nat) (v_this_undoMany : Int32) (a_this_isKept : Nat) (a_this_kept : Nat) (v_this_fewestMany : Int32) (v_this_fewestSets : Int32) (v_this_fewestSet : Int32) (v_this_fewestMost : Int32) (a_this_aside : Nat) (a_this_seens : Nat) (v_this_seenMany : Int32) (v_this_read : Nat → Int32) (v_this_text : Nat → Int32) : va_W := [(a_this, .inr (9, [.ref a_this_told, .ref a_this_st, .ref a_this_text, .int v_this_letters, .int v_this_place, .int v_this_token, .int v_this_value, .int v_this_begins, .ref a_this_read, .int v_this_clauses, .ref a_this_ahead, .int v_this_undoMany, .ref a_this_isKept, .ref a_this_kept, .int v_this_fewestMany, .int v_this_fewestSets, .int v_this_fewestSet, .int v_this_fewestMost, .ref a_this_aside, .ref a_this_seens, .int v_this_seenMany])), (a_this_read, .inl (cyI, 37, .inl v_this_read)), (a_this_text, .inl (cyI, 160, .inl v_this_text))]
set_option maxHeartbeats 4000000 in
set_option maxRecDepth 100000 in
theorem c_X9_readFavour (l : Launch) (D : va_G) (cyI cyZ cyW : ClassId) (a_this : Nat) (a_this_told : Nat) (a_this_st : Nat) (a_this_text : Nat) (v_this_letters : Int32) (v_this_place : Int32) (v_this_token : Int32) (v_this_value : Int32) (v_this_begins : Int32) (a_this_read : Nat) (v_this_clauses : Int32) (a_this_ahead : Nat) (v_this_undoMany : Int32) (a_this_isKept : Nat) (a_this_kept : Nat) (v_this_fewestMany : Int32) (v_this_fewestSets : Int32) (v_this_fewestSet : Int32) (v_this_fewestMost : Int32) (a_this_aside : Nat) (a_this_seens : Nat) (v_this_seenMany : Int32) (v_this_read : Nat → Int32) (v_this_text : Nat → Int32) (x1 : Int32) (res : Int32 × Int32 × Int32 × Int32 × Int32 × (Nat → Int32)) (hf : f_X9_readFavour v_this_letters v_this_place v_this_token v_this_value v_this_begins v_this_read v_this_text x1 = some res) : ∀ sz, Met l yX9_readFavour wsX9_readFavour { frames := 3, cells := 0, slots := 0, locals := 67 } (PCx D (tyG cyI cyZ cyW) [.ref a_this, .int x1] (w_X9_readFavour cyI cyZ cyW a_this a_this_told a_this_st a_this_text v_this_letters v_this_place v_this_token v_this_value v_this_begins a_this_read v_this_clauses a_this_ahead v_this_undoMany a_this_isKept a_this_kept v_this_fewestMany v_this_fewestSets v_this_fewestSet v_this_fewestMost a_this_aside a_this_seens v_this_seenMany v_this_read v_this_text) sz) (QI D (tyG cyI cyZ cyW) (w_X9_readFavour cyI cyZ cyW a_this a_this_told a_this_st a_this_text v_this_letters v_this_place v_this_token v_this_value v_this_begins a_this_read v_this_clauses a_this_ahead v_this_undoMany a_this_isKept a_this_kept v_this_fewestMany v_this_fewestSets v_this_fewestSet v_this_fewestMost a_this_aside a_this_seens v_this_seenMany v_this_read v_this_text) sz res.1 (w_X9_readFavour cyI cyZ cyW a_this a_this_told a_this_st a_this_text v_this_letters res.2.1 res.2.2.1 res.2.2.2.1 res.2.2.2.2.1 a_this_read v_this_clauses a_this_ahead v_this_undoMany a_this_isKept a_this_kept v_this_fewestMany v_this_fewestSets v_this_fewestSet v_this_fewestMost a_this_aside a_this_seens v_this_seenMany res.2.2.2.2.2 v_this_text)) 0 0 (va_A (w_X9_readFavour cyI cyZ cyW a_this a_this_told a_this_st a_this_text v_this_letters v_this_place v_this_token v_this_value v_this_begins a_this_read v_this_clauses a_this_ahead v_this_undoMany a_this_isKept a_this_kept v_this_fewestMany v_this_fewestSets v_this_fewestSet v_this_fewestMost a_this_aside a_this_seens v_this_seenMany v_this_read v_this_text) sz) := by
  intro sz
  refine met_of (cc := cX9_readFavour) (maxL := 5) (ret := (some .boolean)) (lv0 := [(0, .ref a_this), (1, .int x1)]) (by decide) rfl ⟨(Nat.le_of_ble_eq_true rfl), rfl⟩ ?_
  intro p e s m below meth c C hr hlk hnm hsz
  subst hsz
  have C : CX p s m _ c 5 cX9_readFavour RX9 wsX9_readFavour D (tyG cyI cyZ cyW) _ := C
  obtain ⟨Z, hZ⟩ : ∃ Z : va_W → Nat → LV → List Value → Prop, Z = ST p l e { frames := 3, cells := 0, slots := 0, locals := 67 } s m [.ref a_this, .int x1].toArray below meth c 5 D (va_A (w_X9_readFavour cyI cyZ cyW a_this a_this_told a_this_st a_this_text v_this_letters v_this_place v_this_token v_this_value v_this_begins a_this_read v_this_clauses a_this_ahead v_this_undoMany a_this_isKept a_this_kept v_this_fewestMany v_this_fewestSets v_this_fewestSet v_this_fewestMost a_this_aside a_this_seens v_this_seenMany v_this_read v_this_text) s.heap.size) (MQ below (QI D (tyG cyI cyZ cyW) (w_X9_readFavour cyI cyZ cyW a_this a_this_told a_this_st a_this_text v_this_letters v_this_place v_this_token v_this_value v_this_begins a_this_read v_this_clauses a_this_ahead v_this_undoMany a_this_isKept a_this_kept v_this_fewestMany v_this_fewestSets v_this_fewestSet v_this_fewestMost a_this_aside a_this_seens v_this_seenMany v_this_read v_this_text) s.heap.size res.1 (w_X9_readFavour cyI cyZ cyW a_this a_this_told a_this_st a_this_text v_this_letters res.2.1 res.2.2.1 res.2.2.2.1 res.2.2.2.2.1 a_this_read v_this_clauses a_this_ahead v_this_undoMany a_this_isKept a_this_kept v_this_fewestMany v_this_fewestSets v_this_fewestSet v_this_fewestMost a_this_aside a_this_seens v_this_seenMany res.2.2.2.2.2 v_this_text)) [.ref a_this, .int x1].toArray s 0 0 (va_A (w_X9_readFavour cyI cyZ cyW a_this a_this_told a_this_st a_this_text v_this_letters v_this_place v_this_token v_this_value v_this_begins a_this_read v_this_clauses a_this_ahead v_this_undoMany a_this_isKept a_this_kept v_this_fewestMany v_this_fewestSets v_this_fewestSet v_this_fewestMost a_this_aside a_this_seens v_this_seenMany v_this_read v_this_text) s.heap.size)) 0 0 := ⟨_, rfl⟩
  have hb_87 : ∀ (s0 : Int32) (s1 : Int32) (v_this_place : Int32) (v_this_token : Int32) (v_this_value : Int32) (v_this_begins : Int32) (v_this_read : Nat → Int32), f_X9_readFavour_b87 v_this_letters v_this_text s0 s1 v_this_place v_this_token v_this_value v_this_begins v_this_read = some res → Z (w_X9_readFavour cyI cyZ cyW a_this a_this_told a_this_st a_this_text v_this_letters v_this_place v_this_token v_this_value v_this_begins a_this_read v_this_clauses a_this_ahead v_this_undoMany a_this_isKept a_this_kept v_this_fewestMany v_this_fewestSets v_this_fewestSet v_this_fewestMost a_this_aside a_this_seens v_this_seenMany v_this_read v_this_text) 87 [] [.int s0, .int s1, .ref a_this_read] := by
    subst hZ
    intro s0 s1 v_this_place v_this_token v_this_value v_this_begins v_this_read hf
    obtain ⟨hi6, hf⟩ := gd_some hf
    refine r_iast (ws' := (w_X9_readFavour cyI cyZ cyW a_this a_this_told a_this_st a_this_text v_this_letters v_this_place v_this_token v_this_value v_this_begins a_this_read v_this_clauses a_this_ahead v_this_undoMany a_this_isKept a_this_kept v_this_fewestMany v_this_fewestSets v_this_fewestSet v_this_fewestMost a_this_aside a_this_seens v_this_seenMany (upd v_this_read (Int32.toNatClampNeg s1) s0) v_this_text)) C 1 0 rfl rfl hi6 rfl dX9_readFavour_87 ?_
    refine r_iconst C 1 dX9_readFavour_88 (by decide) ?_
    rw [← Option.some.inj hf]
    exact r_zret (r := 1) C hr hlk rfl dX9_readFavour_89
  have hb_35 : ∀ (x1 : Int32) (x2 : Int32) (s0 : Int32) (v_this_place : Int32) (v_this_token : Int32) (v_this_value : Int32) (v_this_begins : Int32) (v_this_read : Nat → Int32), f_X9_readFavour_b35 v_this_letters v_this_text x1 x2 s0 v_this_place v_this_token v_this_value v_this_begins v_this_read = some res → Z (w_X9_readFavour cyI cyZ cyW a_this a_this_told a_this_st a_this_text v_this_letters v_this_place v_this_token v_this_value v_this_begins a_this_read v_this_clauses a_this_ahead v_this_undoMany a_this_isKept a_this_kept v_this_fewestMany v_this_fewestSets v_this_fewestSet v_this_fewestMost a_this_aside a_this_seens v_this_seenMany v_this_read v_this_text) 35 [(0, .ref a_this), (1, .int x1), (2, .int x2)] [.int s0] := by
    subst hZ
    intro x1 x2 s0 v_this_place v_this_token v_this_value v_this_begins v_this_read hf
    refine r_istore_n (lv' := [(3, .int s0), (0, .ref a_this), (1, .int x1), (2, .int x2)]) C dX9_readFavour_35 rfl (by decide) rfl ?_
    refine r_iload_n C dX9_readFavour_36 rfl 0 rfl ?_
    refine r_if_lt C 45 dX9_readFavour_37 (by decide) hf (fun hf => ?_) (fun hf => ?_)
    · refine r_iconst C 0 dX9_readFavour_45 (by decide) ?_
      rw [← Option.some.inj hf]
      exact r_zret (r := 0) C hr hlk rfl dX9_readFavour_46
    · refine r_iload_n C dX9_readFavour_40 rfl 3 rfl ?_
      refine r_iload_n C dX9_readFavour_41 rfl 0 rfl ?_
      refine r_icmp_ne C 47 dX9_readFavour_42 (by decide) hf (fun hf => ?_) (fun hf => ?_)
      · refine r_aload_n C dX9_readFavour_47 rfl 1 rfl ?_
        refine r_get C in_X9_readFavour_X9 0 rfl rfl 8 (by decide) lk_X9_readFavour_1 rfl rfl dX9_readFavour_48 ?_
        refine r_bipush C 24 dX9_readFavour_51 (by decide) ?_
        refine r_iload_n C dX9_readFavour_53 rfl 3 rfl ?_
        refine r_iadd C dX9_readFavour_54 ?_
        obtain ⟨hi5, hf⟩ := gd_some hf
        refine r_iald C 1 0 rfl rfl hi5 dX9_readFavour_55 ?_
        refine r_iconst C 1 dX9_readFavour_56 (by decide) ?_
        refine r_iload_n C dX9_readFavour_57 rfl 0 rfl ?_
        refine r_ishl C dX9_readFavour_58 ?_
        refine r_iconst C (-1) dX9_readFavour_59 (by decide) ?_
        refine r_ixor C dX9_readFavour_60 ?_
        refine r_iand C dX9_readFavour_61 ?_
        refine r_istore (lv' := [(4, .int ((v_this_read (Int32.toNatClampNeg (24 + x2))) &&& (((1 : Int32) <<< (s0 &&& 31)) ^^^ (-1)))), (3, .int s0), (0, .ref a_this), (1, .int x1), (2, .int x2)]) C dX9_readFavour_62 (by decide) rfl ?_
        refine r_aload_n C dX9_readFavour_64 rfl 2 rfl ?_
        refine r_get C in_X9_readFavour_X9 0 rfl rfl 8 (by decide) lk_X9_readFavour_1 rfl rfl dX9_readFavour_65 ?_
        refine r_bipush C 24 dX9_readFavour_68 (by decide) ?_
        refine r_iload_n C dX9_readFavour_70 rfl 4 rfl ?_
        refine r_iadd C dX9_readFavour_71 ?_
        refine r_iload_n C dX9_readFavour_72 rfl 3 rfl ?_
        refine r_if_eq C 85 dX9_readFavour_73 (by decide) hf (fun hf => ?_) (fun hf => ?_)
        · refine r_iload C dX9_readFavour_85 0 rfl ?_
          exact ST_lv [] rfl (hb_87 ((v_this_read (Int32.toNatClampNeg (24 + x2))) &&& (((1 : Int32) <<< (s0 &&& 31)) ^^^ (-1))) (24 + x2) v_this_place v_this_token v_this_value v_this_begins v_this_read hf)
        · refine r_iload C dX9_readFavour_76 0 rfl ?_
          refine r_iconst C 1 dX9_readFavour_78 (by decide) ?_
          refine r_iload_n C dX9_readFavour_79 rfl 1 rfl ?_
          refine r_ishl C dX9_readFavour_80 ?_
          refine r_ior C dX9_readFavour_81 ?_
          refine r_goto C 87 dX9_readFavour_82 (by decide) ?_
          exact ST_lv [] rfl (hb_87 (((v_this_read (Int32.toNatClampNeg (24 + x2))) &&& (((1 : Int32) <<< (s0 &&& 31)) ^^^ (-1))) ||| ((1 : Int32) <<< (s0 &&& 31))) (24 + x2) v_this_place v_this_token v_this_value v_this_begins v_this_read hf)
      · refine r_iconst C 0 dX9_readFavour_45 (by decide) ?_
        rw [← Option.some.inj hf]
        exact r_zret (r := 0) C hr hlk rfl dX9_readFavour_46
  subst hZ
  refine r_aload_n C dX9_readFavour_0 rfl 0 rfl ?_
  refine r_iconst C 0 dX9_readFavour_1 (by decide) ?_
  refine r_aload_n C dX9_readFavour_2 rfl 0 rfl ?_
  refine r_get C in_X9_readFavour_X9 0 rfl rfl 8 (by decide) lk_X9_readFavour_1 rfl rfl dX9_readFavour_3 ?_
  refine r_iconst C 0 dX9_readFavour_6 (by decide) ?_
  refine r_iald_k C 0 1 0 rfl rfl (kk_ 0 37 (by decide) (by decide)) dX9_readFavour_7 ?_
  refine r_iconst C 1 dX9_readFavour_8 (by decide) ?_
  refine r_isub C dX9_readFavour_9 ?_
  obtain ⟨y1_0, y1_1, y1_2, y1_3, y1_4, hy2, hf⟩ := bd5_some hf
  refine r_callV_i (As := [.int 0, .int ((v_this_read 0) - 1)]) (rest := []) (ws' := (w_X9_readFavour cyI cyZ cyW a_this a_this_told a_this_st a_this_text v_this_letters y1_1 y1_2 y1_3 y1_4 a_this_read v_this_clauses a_this_ahead v_this_undoMany a_this_isKept a_this_kept v_this_fewestMany v_this_fewestSets v_this_fewestSet v_this_fewestMost a_this_aside a_this_seens v_this_seenMany v_this_read v_this_text)) C (c_X9_number l D cyI cyZ cyW a_this a_this_told a_this_st a_this_text v_this_letters v_this_place v_this_token v_this_value v_this_begins a_this_read v_this_clauses a_this_ahead v_this_undoMany a_this_isKept a_this_kept v_this_fewestMany v_this_fewestSets v_this_fewestSet v_this_fewestMost a_this_aside a_this_seens v_this_seenMany v_this_text 0 ((v_this_read 0) - 1) (y1_0, y1_1, y1_2, y1_3, y1_4) hy2) gX9_readFavour_X9_number rfl hyV_X9_number ⟨rfl, rfl, (Nat.le_of_ble_eq_true rfl), (Nat.le_of_ble_eq_true rfl)⟩ rfl 0 rfl rfl [0, 2] rfl rfl rfl rfl rfl (Nat.le_of_ble_eq_true rfl) ⟨Nat.zero_le _, Nat.zero_le _⟩ dX9_readFavour_10 ?_
  refine r_istore_n (lv' := [(2, .int y1_0), (0, .ref a_this), (1, .int x1)]) C dX9_readFavour_13 rfl (by decide) rfl ?_
  refine r_iload_n C dX9_readFavour_14 rfl 0 rfl ?_
  refine r_if_ge C 22 dX9_readFavour_15 (by decide) hf (fun hf => ?_) (fun hf => ?_)
  · refine r_aload_n C dX9_readFavour_22 rfl 1 rfl ?_
    refine r_iconst C 0 dX9_readFavour_23 (by decide) ?_
    refine r_aload_n C dX9_readFavour_24 rfl 1 rfl ?_
    refine r_get C in_X9_readFavour_X9 0 rfl rfl 8 (by decide) lk_X9_readFavour_1 rfl rfl dX9_readFavour_25 ?_
    refine r_iconst C 0 dX9_readFavour_28 (by decide) ?_
    refine r_iald_k C 0 1 0 rfl rfl (kk_ 0 37 (by decide) (by decide)) dX9_readFavour_29 ?_
    refine r_iconst C 1 dX9_readFavour_30 (by decide) ?_
    refine r_isub C dX9_readFavour_31 ?_
    obtain ⟨y3_0, y3_1, y3_2, y3_3, y3_4, hy4, hf⟩ := bd5_some hf
    refine r_callV_i (As := [.int 0, .int ((v_this_read 0) - 1)]) (rest := []) (ws' := (w_X9_readFavour cyI cyZ cyW a_this a_this_told a_this_st a_this_text v_this_letters y3_1 y3_2 y3_3 y3_4 a_this_read v_this_clauses a_this_ahead v_this_undoMany a_this_isKept a_this_kept v_this_fewestMany v_this_fewestSets v_this_fewestSet v_this_fewestMost a_this_aside a_this_seens v_this_seenMany v_this_read v_this_text)) C (c_X9_number l D cyI cyZ cyW a_this a_this_told a_this_st a_this_text v_this_letters y1_1 y1_2 y1_3 y1_4 a_this_read v_this_clauses a_this_ahead v_this_undoMany a_this_isKept a_this_kept v_this_fewestMany v_this_fewestSets v_this_fewestSet v_this_fewestMost a_this_aside a_this_seens v_this_seenMany v_this_text 0 ((v_this_read 0) - 1) (y3_0, y3_1, y3_2, y3_3, y3_4) hy4) gX9_readFavour_X9_number rfl hyV_X9_number ⟨rfl, rfl, (Nat.le_of_ble_eq_true rfl), (Nat.le_of_ble_eq_true rfl)⟩ rfl 0 rfl rfl [0, 2] rfl rfl rfl rfl rfl (Nat.le_of_ble_eq_true rfl) ⟨Nat.zero_le _, Nat.zero_le _⟩ dX9_readFavour_32 ?_
    exact ST_lv [1, 2, 0] rfl (hb_35 x1 y1_0 y3_0 y3_1 y3_2 y3_3 y3_4 v_this_read hf)
  · refine r_iconst C (-1) dX9_readFavour_18 (by decide) ?_
    refine r_goto C 35 dX9_readFavour_19 (by decide) ?_
    exact ST_lv [1, 2, 0] rfl (hb_35 x1 y1_0 (-1) y1_1 y1_2 y1_3 y1_4 v_this_read hf)

theorem lk_X9_readClause_1 : Cond.fieldLink RX9 19 "ParishCoatModel" "read" "[I" ∈ wsX9_readClause := List.mem_of_getElem? (i := 1) rfl
theorem in_X9_readClause_X9 : ∀ w ∈ u_ws RX9 TX9 21, w ∈ wsX9_readClause := fun _ h => List.mem_cons_of_mem _ (List.mem_append_right _ h)
theorem hyV_X9_verb : yX9_verb.cls = RX9 ∧ yX9_verb.cls ≠ "java/lang/invoke/MethodHandle" ∧ yX9_verb.cls ≠ "java/lang/invoke/VarHandle" ∧ (parseMethodDescriptor yX9_verb.desc).map (fun d => d.parameters.length) = some 0 := by decide +kernel
theorem hyS_X9_verb : yX9_verb.cls ≠ "java/lang/invoke/MethodHandle" ∧ yX9_verb.cls ≠ "java/lang/invoke/VarHandle" ∧ (parseMethodDescriptor yX9_verb.desc).map (fun d => d.parameters.length) = some 0 := by decide +kernel
theorem hyV_X9_readButton : yX9_readButton.cls = RX9 ∧ yX9_readButton.cls ≠ "java/lang/invoke/MethodHandle" ∧ yX9_readButton.cls ≠ "java/lang/invoke/VarHandle" ∧ (parseMethodDescriptor yX9_readButton.desc).map (fun d => d.parameters.length) = some 1 := by decide +kernel
theorem hyS_X9_readButton : yX9_readButton.cls ≠ "java/lang/invoke/MethodHandle" ∧ yX9_readButton.cls ≠ "java/lang/invoke/VarHandle" ∧ (parseMethodDescriptor yX9_readButton.desc).map (fun d => d.parameters.length) = some 1 := by decide +kernel
theorem hyV_X9_readFavour : yX9_readFavour.cls = RX9 ∧ yX9_readFavour.cls ≠ "java/lang/invoke/MethodHandle" ∧ yX9_readFavour.cls ≠ "java/lang/invoke/VarHandle" ∧ (parseMethodDescriptor yX9_readFavour.desc).map (fun d => d.parameters.length) = some 1 := by decide +kernel
theorem hyS_X9_readFavour : yX9_readFavour.cls ≠ "java/lang/invoke/MethodHandle" ∧ yX9_readFavour.cls ≠ "java/lang/invoke/VarHandle" ∧ (parseMethodDescriptor yX9_readFavour.desc).map (fun d => d.parameters.length) = some 1 := by decide +kernel
def f_X9_readClause_b128 (v_this_letters : Int32) (v_this_text : Nat → Int32) (x1 : Int32) (s0 : Int32) (v_this_place : Int32) (v_this_token : Int32) (v_this_value : Int32) (v_this_begins : Int32) (v_this_read : Nat → Int32) : Option (Int32 × Int32 × Int32 × Int32 × Int32 × (Nat → Int32)) := if 0 ≤ s0 then (if x1 = 7 then (some (1, v_this_place, v_this_token, v_this_value, v_this_begins, (upd v_this_read 1 s0))) else (gd_ (31 + (v_this_read 2)) 37 (some (1, v_this_place, v_this_token, v_this_value, v_this_begins, (upd (upd v_this_read (Int32.toNatClampNeg (31 + (v_this_read 2))) s0) 2 (((upd v_this_read (Int32.toNatClampNeg (31 + (v_this_read 2))) s0) 2) + 1)))))) else (some (0, v_this_place, v_this_token, v_this_value, v_this_begins, v_this_read))
def f_X9_readClause_b105 (v_this_letters : Int32) (v_this_text : Nat → Int32) (x1 : Int32) (v_this_place : Int32) (v_this_token : Int32) (v_this_value : Int32) (v_this_begins : Int32) (v_this_read : Nat → Int32) : Option (Int32 × Int32 × Int32 × Int32 × Int32 × (Nat → Int32)) := if x1 = 7 then (bd5 (f_X9_number v_this_letters v_this_place v_this_token v_this_value v_this_begins v_this_text 1 20) (fun y11_0 y11_1 y11_2 y11_3 y11_4 => f_X9_readClause_b128 v_this_letters v_this_text x1 y11_0 y11_1 y11_2 y11_3 y11_4 v_this_read)) else (bd5 (f_X9_number v_this_letters v_this_place v_this_token v_this_value v_this_begins v_this_text 0 40) (fun y9_0 y9_1 y9_2 y9_3 y9_4 => f_X9_readClause_b128 v_this_letters v_this_text x1 y9_0 y9_1 y9_2 y9_3 y9_4 v_this_read))
def f_X9_readClause_b67 (v_this_letters : Int32) (v_this_text : Nat → Int32) (s0 : Int32) (v_this_place : Int32) (v_this_token : Int32) (v_this_value : Int32) (v_this_begins : Int32) (v_this_read : Nat → Int32) : Option (Int32 × Int32 × Int32 × Int32 × Int32 × (Nat → Int32)) := bd6 (f_X9_readFavour v_this_letters v_this_place v_this_token v_this_value v_this_begins v_this_read v_this_text s0) (fun y6_0 y6_1 y6_2 y6_3 y6_4 y6_5 => bz_ y6_0 (some (y6_0, y6_1, y6_2, y6_3, y6_4, y6_5)))
def f_X9_readClause (v_this_letters : Int32) (v_this_place : Int32) (v_this_token : Int32) (v_this_value : Int32) (v_this_begins : Int32) (v_this_text : Nat → Int32) (v_this_read : Nat → Int32) : Option (Int32 × Int32 × Int32 × Int32 × Int32 × (Nat → Int32)) := (f_X9_verb v_this_place v_this_token v_this_begins v_this_text).bind fun y1 => if 0 ≤ y1 then (if 4 ≤ y1 then (if y1 = 4 then (some (1, v_this_place, v_this_token, v_this_value, v_this_begins, (upd (upd (upd v_this_read 0 0) 1 3) 2 0))) else (if 7 ≤ y1 then (if y1 = 9 then (some (1, v_this_place, v_this_token, v_this_value, v_this_begins, (upd v_this_read 2 0))) else (if y1 = 8 then (if (v_this_read 2) = 6 then (some (0, v_this_place, v_this_token, v_this_value, v_this_begins, v_this_read)) else (f_X9_readClause_b105 v_this_letters v_this_text y1 v_this_place v_this_token v_this_value v_this_begins v_this_read)) else (f_X9_readClause_b105 v_this_letters v_this_text y1 v_this_place v_this_token v_this_value v_this_begins v_this_read))) else (if y1 = 5 then (f_X9_readClause_b67 v_this_letters v_this_text 1 v_this_place v_this_token v_this_value v_this_begins v_this_read) else (f_X9_readClause_b67 v_this_letters v_this_text 0 v_this_place v_this_token v_this_value v_this_begins v_this_read)))) else (bd6 (f_X9_readButton v_this_letters v_this_place v_this_token v_this_value v_this_begins v_this_read v_this_text y1) (fun y3_0 y3_1 y3_2 y3_3 y3_4 y3_5 => bz_ y3_0 (some (y3_0, y3_1, y3_2, y3_3, y3_4, y3_5))))) else (some (0, v_this_place, v_this_token, v_this_value, v_this_begins, v_this_read))
def w_X9_readClause (cyI cyZ cyW : ClassId) (a_this : Nat) (a_this_told : Nat) (a_this_st : Nat) (a_this_text : Nat) (v_this_letters : Int32) (v_this_place : Int32) (v_this_token : Int32) (v_this_value : Int32) (v_this_begins : Int32) (a_this_read : Nat) (v_this_clauses : Int32) (a_this_ahead : Nat) (v_this_undoMany : Int32) (a_this_isKept : Nat) (a_this_kept : Nat) (v_this_fewestMany : Int32) (v_this_fewestSets : Int32) (v_this_fewestSet : Int32) (v_this_fewestMost : Int32) (a_this_aside : Nat) (a_this_seens : Nat) (v_this_seenMany : Int32) (v_this_text : Nat → Int32) (v_this_read : Nat → Int32) : va_W := [(a_this, .inr (9, [.ref a_this_told, .ref a_this_st, .ref a_this_text, .int v_this_letters, .int v_this_place, .int v_this_token, .int v_this_value, .int v_this_begins, .ref a_this_read, .int v_this_clauses, .ref a_this_ahead, .int v_this_undoMany, .ref a_this_isKept, .ref a_this_kept, .int v_this_fewestMany, .int v_this_fewestSets, .int v_this_fewestSet, .int v_this_fewestMost, .ref a_this_aside, .ref a_this_seens, .int v_this_seenMany])), (a_this_text, .inl (cyI, 160, .inl v_this_text)), (a_this_read, .inl (cyI, 37, .inl v_this_read))]
set_option maxHeartbeats 4000000 in
set_option maxRecDepth 100000 in
theorem c_X9_readClause (l : Launch) (D : va_G) (cyI cyZ cyW : ClassId) (a_this : Nat) (a_this_told : Nat) (a_this_st : Nat) (a_this_text : Nat) (v_this_letters : Int32) (v_this_place : Int32) (v_this_token : Int32) (v_this_value : Int32) (v_this_begins : Int32) (a_this_read : Nat) (v_this_clauses : Int32) (a_this_ahead : Nat) (v_this_undoMany : Int32) (a_this_isKept : Nat) (a_this_kept : Nat) (v_this_fewestMany : Int32) (v_this_fewestSets : Int32) (v_this_fewestSet : Int32) (v_this_fewestMost : Int32) (a_this_aside : Nat) (a_this_seens : Nat) (v_this_seenMany : Int32) (v_this_text : Nat → Int32) (v_this_read : Nat → Int32) (res : Int32 × Int32 × Int32 × Int32 × Int32 × (Nat → Int32)) (hf : f_X9_readClause v_this_letters v_this_place v_this_token v_this_value v_this_begins v_this_text v_this_read = some res) : ∀ sz, Met l yX9_readClause wsX9_readClause { frames := 4, cells := 0, slots := 0, locals := 91 } (PCx D (tyG cyI cyZ cyW) [.ref a_this] (w_X9_readClause cyI cyZ cyW a_this a_this_told a_this_st a_this_text v_this_letters v_this_place v_this_token v_this_value v_this_begins a_this_read v_this_clauses a_this_ahead v_this_undoMany a_this_isKept a_this_kept v_this_fewestMany v_this_fewestSets v_this_fewestSet v_this_fewestMost a_this_aside a_this_seens v_this_seenMany v_this_text v_this_read) sz) (QI D (tyG cyI cyZ cyW) (w_X9_readClause cyI cyZ cyW a_this a_this_told a_this_st a_this_text v_this_letters v_this_place v_this_token v_this_value v_this_begins a_this_read v_this_clauses a_this_ahead v_this_undoMany a_this_isKept a_this_kept v_this_fewestMany v_this_fewestSets v_this_fewestSet v_this_fewestMost a_this_aside a_this_seens v_this_seenMany v_this_text v_this_read) sz res.1 (w_X9_readClause cyI cyZ cyW a_this a_this_told a_this_st a_this_text v_this_letters res.2.1 res.2.2.1 res.2.2.2.1 res.2.2.2.2.1 a_this_read v_this_clauses a_this_ahead v_this_undoMany a_this_isKept a_this_kept v_this_fewestMany v_this_fewestSets v_this_fewestSet v_this_fewestMost a_this_aside a_this_seens v_this_seenMany v_this_text res.2.2.2.2.2)) 0 0 (va_A (w_X9_readClause cyI cyZ cyW a_this a_this_told a_this_st a_this_text v_this_letters v_this_place v_this_token v_this_value v_this_begins a_this_read v_this_clauses a_this_ahead v_this_undoMany a_this_isKept a_this_kept v_this_fewestMany v_this_fewestSets v_this_fewestSet v_this_fewestMost a_this_aside a_this_seens v_this_seenMany v_this_text v_this_read) sz) := by
  intro sz
  refine met_of (cc := cX9_readClause) (maxL := 3) (ret := (some .boolean)) (lv0 := [(0, .ref a_this)]) (by decide) rfl ⟨(Nat.le_of_ble_eq_true rfl), rfl⟩ ?_
  intro p e s m below meth c C hr hlk hnm hsz
  subst hsz
  have C : CX p s m _ c 3 cX9_readClause RX9 wsX9_readClause D (tyG cyI cyZ cyW) _ := C
  obtain ⟨Z, hZ⟩ : ∃ Z : va_W → Nat → LV → List Value → Prop, Z = ST p l e { frames := 4, cells := 0, slots := 0, locals := 91 } s m [.ref a_this].toArray below meth c 3 D (va_A (w_X9_readClause cyI cyZ cyW a_this a_this_told a_this_st a_this_text v_this_letters v_this_place v_this_token v_this_value v_this_begins a_this_read v_this_clauses a_this_ahead v_this_undoMany a_this_isKept a_this_kept v_this_fewestMany v_this_fewestSets v_this_fewestSet v_this_fewestMost a_this_aside a_this_seens v_this_seenMany v_this_text v_this_read) s.heap.size) (MQ below (QI D (tyG cyI cyZ cyW) (w_X9_readClause cyI cyZ cyW a_this a_this_told a_this_st a_this_text v_this_letters v_this_place v_this_token v_this_value v_this_begins a_this_read v_this_clauses a_this_ahead v_this_undoMany a_this_isKept a_this_kept v_this_fewestMany v_this_fewestSets v_this_fewestSet v_this_fewestMost a_this_aside a_this_seens v_this_seenMany v_this_text v_this_read) s.heap.size res.1 (w_X9_readClause cyI cyZ cyW a_this a_this_told a_this_st a_this_text v_this_letters res.2.1 res.2.2.1 res.2.2.2.1 res.2.2.2.2.1 a_this_read v_this_clauses a_this_ahead v_this_undoMany a_this_isKept a_this_kept v_this_fewestMany v_this_fewestSets v_this_fewestSet v_this_fewestMost a_this_aside a_this_seens v_this_seenMany v_this_text res.2.2.2.2.2)) [.ref a_this].toArray s 0 0 (va_A (w_X9_readClause cyI cyZ cyW a_this a_this_told a_this_st a_this_text v_this_letters v_this_place v_this_token v_this_value v_this_begins a_this_read v_this_clauses a_this_ahead v_this_undoMany a_this_isKept a_this_kept v_this_fewestMany v_this_fewestSets v_this_fewestSet v_this_fewestMost a_this_aside a_this_seens v_this_seenMany v_this_text v_this_read) s.heap.size)) 0 0 := ⟨_, rfl⟩
  have hb_128 : ∀ (x1 : Int32) (s0 : Int32) (v_this_place : Int32) (v_this_token : Int32) (v_this_value : Int32) (v_this_begins : Int32) (v_this_read : Nat → Int32), f_X9_readClause_b128 v_this_letters v_this_text x1 s0 v_this_place v_this_token v_this_value v_this_begins v_this_read = some res → Z (w_X9_readClause cyI cyZ cyW a_this a_this_told a_this_st a_this_text v_this_letters v_this_place v_this_token v_this_value v_this_begins a_this_read v_this_clauses a_this_ahead v_this_undoMany a_this_isKept a_this_kept v_this_fewestMany v_this_fewestSets v_this_fewestSet v_this_fewestMost a_this_aside a_this_seens v_this_seenMany v_this_text v_this_read) 128 [(0, .ref a_this), (1, .int x1)] [.int s0] := by
    subst hZ
    intro x1 s0 v_this_place v_this_token v_this_value v_this_begins v_this_read hf
    refine r_istore_n (lv' := [(2, .int s0), (0, .ref a_this), (1, .int x1)]) C dX9_readClause_128 rfl (by decide) rfl ?_
    refine r_iload_n C dX9_readClause_129 rfl 0 rfl ?_
    refine r_if_ge C 135 dX9_readClause_130 (by decide) hf (fun hf => ?_) (fun hf => ?_)
    · refine r_iload_n C dX9_readClause_135 rfl 2 rfl ?_
      refine r_bipush C 7 dX9_readClause_136 (by decide) ?_
      refine r_icmp_ne C 151 dX9_readClause_138 (by decide) hf (fun hf => ?_) (fun hf => ?_)
      · refine r_aload_n C dX9_readClause_151 rfl 1 rfl ?_
        refine r_get C in_X9_readClause_X9 0 rfl rfl 8 (by decide) lk_X9_readClause_1 rfl rfl dX9_readClause_152 ?_
        refine r_bipush C 31 dX9_readClause_155 (by decide) ?_
        refine r_aload_n C dX9_readClause_157 rfl 1 rfl ?_
        refine r_get C in_X9_readClause_X9 0 rfl rfl 8 (by decide) lk_X9_readClause_1 rfl rfl dX9_readClause_158 ?_
        refine r_iconst C 2 dX9_readClause_161 (by decide) ?_
        refine r_iald_k C 2 2 0 rfl rfl (kk_ 2 37 (by decide) (by decide)) dX9_readClause_162 ?_
        refine r_iadd C dX9_readClause_163 ?_
        refine r_iload_n C dX9_readClause_164 rfl 0 rfl ?_
        obtain ⟨hi13, hf⟩ := gd_some hf
        refine r_iast (ws' := (w_X9_readClause cyI cyZ cyW a_this a_this_told a_this_st a_this_text v_this_letters v_this_place v_this_token v_this_value v_this_begins a_this_read v_this_clauses a_this_ahead v_this_undoMany a_this_isKept a_this_kept v_this_fewestMany v_this_fewestSets v_this_fewestSet v_this_fewestMost a_this_aside a_this_seens v_this_seenMany v_this_text (upd v_this_read (Int32.toNatClampNeg (31 + (v_this_read 2))) s0))) C 2 0 rfl rfl hi13 rfl dX9_readClause_165 ?_
        refine r_aload_n C dX9_readClause_166 rfl 1 rfl ?_
        refine r_get C in_X9_readClause_X9 0 rfl rfl 8 (by decide) lk_X9_readClause_1 rfl rfl dX9_readClause_167 ?_
        refine r_iconst C 2 dX9_readClause_170 (by decide) ?_
        refine r_dup2_11 C dX9_readClause_171 rfl rfl ?_
        refine r_iald_k C 2 2 0 rfl rfl (kk_ 2 37 (by decide) (by decide)) dX9_readClause_172 ?_
        refine r_iconst C 1 dX9_readClause_173 (by decide) ?_
        refine r_iadd C dX9_readClause_174 ?_
        refine r_iast_k (ws' := (w_X9_readClause cyI cyZ cyW a_this a_this_told a_this_st a_this_text v_this_letters v_this_place v_this_token v_this_value v_this_begins a_this_read v_this_clauses a_this_ahead v_this_undoMany a_this_isKept a_this_kept v_this_fewestMany v_this_fewestSets v_this_fewestSet v_this_fewestMost a_this_aside a_this_seens v_this_seenMany v_this_text (upd (upd v_this_read (Int32.toNatClampNeg (31 + (v_this_read 2))) s0) 2 (((upd v_this_read (Int32.toNatClampNeg (31 + (v_this_read 2))) s0) 2) + 1)))) C 2 2 0 rfl rfl (kk_ 2 37 (by decide) (by decide)) rfl dX9_readClause_175 ?_
        refine r_iconst C 1 dX9_readClause_176 (by decide) ?_
        rw [← Option.some.inj hf]
        exact r_zret (r := 1) C hr hlk rfl dX9_readClause_177
      · refine r_aload_n C dX9_readClause_141 rfl 1 rfl ?_
        refine r_get C in_X9_readClause_X9 0 rfl rfl 8 (by decide) lk_X9_readClause_1 rfl rfl dX9_readClause_142 ?_
        refine r_iconst C 1 dX9_readClause_145 (by decide) ?_
        refine r_iload_n C dX9_readClause_146 rfl 0 rfl ?_
        refine r_iast_k (ws' := (w_X9_readClause cyI cyZ cyW a_this a_this_told a_this_st a_this_text v_this_letters v_this_place v_this_token v_this_value v_this_begins a_this_read v_this_clauses a_this_ahead v_this_undoMany a_this_isKept a_this_kept v_this_fewestMany v_this_fewestSets v_this_fewestSet v_this_fewestMost a_this_aside a_this_seens v_this_seenMany v_this_text (upd v_this_read 1 s0))) C 1 2 0 rfl rfl (kk_ 1 37 (by decide) (by decide)) rfl dX9_readClause_147 ?_
        refine r_goto C 176 dX9_readClause_148 (by decide) ?_
        refine r_iconst C 1 dX9_readClause_176 (by decide) ?_
        rw [← Option.some.inj hf]
        exact r_zret (r := 1) C hr hlk rfl dX9_readClause_177
    · refine r_iconst C 0 dX9_readClause_133 (by decide) ?_
      rw [← Option.some.inj hf]
      exact r_zret (r := 0) C hr hlk rfl dX9_readClause_134
  have hb_105 : ∀ (x1 : Int32) (v_this_place : Int32) (v_this_token : Int32) (v_this_value : Int32) (v_this_begins : Int32) (v_this_read : Nat → Int32), f_X9_readClause_b105 v_this_letters v_this_text x1 v_this_place v_this_token v_this_value v_this_begins v_this_read = some res → Z (w_X9_readClause cyI cyZ cyW a_this a_this_told a_this_st a_this_text v_this_letters v_this_place v_this_token v_this_value v_this_begins a_this_read v_this_clauses a_this_ahead v_this_undoMany a_this_isKept a_this_kept v_this_fewestMany v_this_fewestSets v_this_fewestSet v_this_fewestMost a_this_aside a_this_seens v_this_seenMany v_this_text v_this_read) 105 [(0, .ref a_this), (1, .int x1)] [] := by
    subst hZ
    intro x1 v_this_place v_this_token v_this_value v_this_begins v_this_read hf
    refine r_iload_n C dX9_readClause_105 rfl 1 rfl ?_
    refine r_bipush C 7 dX9_readClause_106 (by decide) ?_
    refine r_icmp_ne C 121 dX9_readClause_108 (by decide) hf (fun hf => ?_) (fun hf => ?_)
    · refine r_aload_n C dX9_readClause_121 rfl 0 rfl ?_
      refine r_iconst C 0 dX9_readClause_122 (by decide) ?_
      refine r_bipush C 40 dX9_readClause_123 (by decide) ?_
      obtain ⟨y9_0, y9_1, y9_2, y9_3, y9_4, hy10, hf⟩ := bd5_some hf
      refine r_callV_i (As := [.int 0, .int 40]) (rest := []) (ws' := (w_X9_readClause cyI cyZ cyW a_this a_this_told a_this_st a_this_text v_this_letters y9_1 y9_2 y9_3 y9_4 a_this_read v_this_clauses a_this_ahead v_this_undoMany a_this_isKept a_this_kept v_this_fewestMany v_this_fewestSets v_this_fewestSet v_this_fewestMost a_this_aside a_this_seens v_this_seenMany v_this_text v_this_read)) C (c_X9_number l D cyI cyZ cyW a_this a_this_told a_this_st a_this_text v_this_letters v_this_place v_this_token v_this_value v_this_begins a_this_read v_this_clauses a_this_ahead v_this_undoMany a_this_isKept a_this_kept v_this_fewestMany v_this_fewestSets v_this_fewestSet v_this_fewestMost a_this_aside a_this_seens v_this_seenMany v_this_text 0 40 (y9_0, y9_1, y9_2, y9_3, y9_4) hy10) gX9_readClause_X9_number rfl hyV_X9_number ⟨rfl, rfl, (Nat.le_of_ble_eq_true rfl), (Nat.le_of_ble_eq_true rfl)⟩ rfl 0 rfl rfl [0, 1] rfl rfl rfl rfl rfl (Nat.le_of_ble_eq_true rfl) ⟨Nat.zero_le _, Nat.zero_le _⟩ dX9_readClause_125 ?_
      exact ST_lv [0, 1] rfl (hb_128 x1 y9_0 y9_1 y9_2 y9_3 y9_4 v_this_read hf)
    · refine r_aload_n C dX9_readClause_111 rfl 0 rfl ?_
      refine r_iconst C 1 dX9_readClause_112 (by decide) ?_
      refine r_bipush C 20 dX9_readClause_113 (by decide) ?_
      obtain ⟨y11_0, y11_1, y11_2, y11_3, y11_4, hy12, hf⟩ := bd5_some hf
      refine r_callV_i (As := [.int 1, .int 20]) (rest := []) (ws' := (w_X9_readClause cyI cyZ cyW a_this a_this_told a_this_st a_this_text v_this_letters y11_1 y11_2 y11_3 y11_4 a_this_read v_this_clauses a_this_ahead v_this_undoMany a_this_isKept a_this_kept v_this_fewestMany v_this_fewestSets v_this_fewestSet v_this_fewestMost a_this_aside a_this_seens v_this_seenMany v_this_text v_this_read)) C (c_X9_number l D cyI cyZ cyW a_this a_this_told a_this_st a_this_text v_this_letters v_this_place v_this_token v_this_value v_this_begins a_this_read v_this_clauses a_this_ahead v_this_undoMany a_this_isKept a_this_kept v_this_fewestMany v_this_fewestSets v_this_fewestSet v_this_fewestMost a_this_aside a_this_seens v_this_seenMany v_this_text 1 20 (y11_0, y11_1, y11_2, y11_3, y11_4) hy12) gX9_readClause_X9_number rfl hyV_X9_number ⟨rfl, rfl, (Nat.le_of_ble_eq_true rfl), (Nat.le_of_ble_eq_true rfl)⟩ rfl 0 rfl rfl [0, 1] rfl rfl rfl rfl rfl (Nat.le_of_ble_eq_true rfl) ⟨Nat.zero_le _, Nat.zero_le _⟩ dX9_readClause_115 ?_
      refine r_goto C 128 dX9_readClause_118 (by decide) ?_
      exact ST_lv [0, 1] rfl (hb_128 x1 y11_0 y11_1 y11_2 y11_3 y11_4 v_this_read hf)
  have hb_67 : ∀ (s0 : Int32) (v_this_place : Int32) (v_this_token : Int32) (v_this_value : Int32) (v_this_begins : Int32) (v_this_read : Nat → Int32), f_X9_readClause_b67 v_this_letters v_this_text s0 v_this_place v_this_token v_this_value v_this_begins v_this_read = some res → Z (w_X9_readClause cyI cyZ cyW a_this a_this_told a_this_st a_this_text v_this_letters v_this_place v_this_token v_this_value v_this_begins a_this_read v_this_clauses a_this_ahead v_this_undoMany a_this_isKept a_this_kept v_this_fewestMany v_this_fewestSets v_this_fewestSet v_this_fewestMost a_this_aside a_this_seens v_this_seenMany v_this_text v_this_read) 67 [] [.int s0, .ref a_this] := by
    subst hZ
    intro s0 v_this_place v_this_token v_this_value v_this_begins v_this_read hf
    obtain ⟨y6_0, y6_1, y6_2, y6_3, y6_4, y6_5, hy7, hf⟩ := bd6_some hf
    refine r_callV_i (As := [.int s0]) (rest := []) (ws' := (w_X9_readClause cyI cyZ cyW a_this a_this_told a_this_st a_this_text v_this_letters y6_1 y6_2 y6_3 y6_4 a_this_read v_this_clauses a_this_ahead v_this_undoMany a_this_isKept a_this_kept v_this_fewestMany v_this_fewestSets v_this_fewestSet v_this_fewestMost a_this_aside a_this_seens v_this_seenMany v_this_text y6_5)) C (c_X9_readFavour l D cyI cyZ cyW a_this a_this_told a_this_st a_this_text v_this_letters v_this_place v_this_token v_this_value v_this_begins a_this_read v_this_clauses a_this_ahead v_this_undoMany a_this_isKept a_this_kept v_this_fewestMany v_this_fewestSets v_this_fewestSet v_this_fewestMost a_this_aside a_this_seens v_this_seenMany v_this_read v_this_text s0 (y6_0, y6_1, y6_2, y6_3, y6_4, y6_5) hy7) gX9_readClause_X9_readFavour rfl hyV_X9_readFavour ⟨rfl, rfl, (Nat.le_of_ble_eq_true rfl), (Nat.le_of_ble_eq_true rfl)⟩ rfl 0 rfl rfl [0, 2, 1] rfl rfl rfl rfl rfl (Nat.le_of_ble_eq_true rfl) ⟨Nat.zero_le _, Nat.zero_le _⟩ dX9_readClause_67 ?_
    obtain ⟨hz8, hf⟩ := bz_some hf
    rw [← Option.some.inj hf]
    exact r_zret (r := y6_0) C hr hlk hz8 dX9_readClause_70
  subst hZ
  refine r_aload_n C dX9_readClause_0 rfl 0 rfl ?_
  obtain ⟨y1, hy2, hf⟩ := bd_some hf
  refine r_roV_i (As := []) (rest := []) C (c_X9_verb l D cyI cyZ cyW a_this a_this_told a_this_st a_this_text v_this_letters v_this_place v_this_token v_this_value v_this_begins a_this_read v_this_clauses a_this_ahead v_this_undoMany a_this_isKept a_this_kept v_this_fewestMany v_this_fewestSets v_this_fewestSet v_this_fewestMost a_this_aside a_this_seens v_this_seenMany v_this_text y1 hy2) gX9_readClause_X9_verb rfl hyV_X9_verb ⟨rfl, rfl, (Nat.le_of_ble_eq_true rfl), (Nat.le_of_ble_eq_true rfl)⟩ rfl 0 rfl rfl [0, 1] rfl rfl rfl (Nat.le_of_ble_eq_true rfl) ⟨Nat.zero_le _, Nat.zero_le _⟩ dX9_readClause_1 ?_
  refine r_istore_n (lv' := [(1, .int y1), (0, .ref a_this)]) C dX9_readClause_4 rfl (by decide) rfl ?_
  refine r_iload_n C dX9_readClause_5 rfl 0 rfl ?_
  refine r_if_ge C 11 dX9_readClause_6 (by decide) hf (fun hf => ?_) (fun hf => ?_)
  · refine r_iload_n C dX9_readClause_11 rfl 0 rfl ?_
    refine r_iconst C 4 dX9_readClause_12 (by decide) ?_
    refine r_icmp_ge C 22 dX9_readClause_13 (by decide) hf (fun hf => ?_) (fun hf => ?_)
    · refine r_iload_n C dX9_readClause_22 rfl 0 rfl ?_
      refine r_iconst C 4 dX9_readClause_23 (by decide) ?_
      refine r_icmp_ne C 50 dX9_readClause_24 (by decide) hf (fun hf => ?_) (fun hf => ?_)
      · refine r_iload_n C dX9_readClause_50 rfl 0 rfl ?_
        refine r_bipush C 7 dX9_readClause_51 (by decide) ?_
        refine r_icmp_ge C 71 dX9_readClause_53 (by decide) hf (fun hf => ?_) (fun hf => ?_)
        · refine r_iload_n C dX9_readClause_71 rfl 0 rfl ?_
          refine r_bipush C 9 dX9_readClause_72 (by decide) ?_
          refine r_icmp_ne C 86 dX9_readClause_74 (by decide) hf (fun hf => ?_) (fun hf => ?_)
          · refine r_iload_n C dX9_readClause_86 rfl 0 rfl ?_
            refine r_bipush C 8 dX9_readClause_87 (by decide) ?_
            refine r_icmp_ne C 105 dX9_readClause_89 (by decide) hf (fun hf => ?_) (fun hf => ?_)
            · exact ST_lv [1, 0] rfl (hb_105 y1 v_this_place v_this_token v_this_value v_this_begins v_this_read hf)
            · refine r_aload_n C dX9_readClause_92 rfl 1 rfl ?_
              refine r_get C in_X9_readClause_X9 0 rfl rfl 8 (by decide) lk_X9_readClause_1 rfl rfl dX9_readClause_93 ?_
              refine r_iconst C 2 dX9_readClause_96 (by decide) ?_
              refine r_iald_k C 2 2 0 rfl rfl (kk_ 2 37 (by decide) (by decide)) dX9_readClause_97 ?_
              refine r_bipush C 6 dX9_readClause_98 (by decide) ?_
              refine r_icmp_ne C 105 dX9_readClause_100 (by decide) hf (fun hf => ?_) (fun hf => ?_)
              · exact ST_lv [1, 0] rfl (hb_105 y1 v_this_place v_this_token v_this_value v_this_begins v_this_read hf)
              · refine r_iconst C 0 dX9_readClause_103 (by decide) ?_
                rw [← Option.some.inj hf]
                exact r_zret (r := 0) C hr hlk rfl dX9_readClause_104
          · refine r_aload_n C dX9_readClause_77 rfl 1 rfl ?_
            refine r_get C in_X9_readClause_X9 0 rfl rfl 8 (by decide) lk_X9_readClause_1 rfl rfl dX9_readClause_78 ?_
            refine r_iconst C 2 dX9_readClause_81 (by decide) ?_
            refine r_iconst C 0 dX9_readClause_82 (by decide) ?_
            refine r_iast_k (ws' := (w_X9_readClause cyI cyZ cyW a_this a_this_told a_this_st a_this_text v_this_letters v_this_place v_this_token v_this_value v_this_begins a_this_read v_this_clauses a_this_ahead v_this_undoMany a_this_isKept a_this_kept v_this_fewestMany v_this_fewestSets v_this_fewestSet v_this_fewestMost a_this_aside a_this_seens v_this_seenMany v_this_text (upd v_this_read 2 0))) C 2 2 0 rfl rfl (kk_ 2 37 (by decide) (by decide)) rfl dX9_readClause_83 ?_
            refine r_iconst C 1 dX9_readClause_84 (by decide) ?_
            rw [← Option.some.inj hf]
            exact r_zret (r := 1) C hr hlk rfl dX9_readClause_85
        · refine r_aload_n C dX9_readClause_56 rfl 1 rfl ?_
          refine r_iload_n C dX9_readClause_57 rfl 0 rfl ?_
          refine r_iconst C 5 dX9_readClause_58 (by decide) ?_
          refine r_icmp_ne C 66 dX9_readClause_59 (by decide) hf (fun hf => ?_) (fun hf => ?_)
          · refine r_iconst C 0 dX9_readClause_66 (by decide) ?_
            exact ST_lv [] rfl (hb_67 0 v_this_place v_this_token v_this_value v_this_begins v_this_read hf)
          · refine r_iconst C 1 dX9_readClause_62 (by decide) ?_
            refine r_goto C 67 dX9_readClause_63 (by decide) ?_
            exact ST_lv [] rfl (hb_67 1 v_this_place v_this_token v_this_value v_this_begins v_this_read hf)
      · refine r_aload_n C dX9_readClause_27 rfl 1 rfl ?_
        refine r_get C in_X9_readClause_X9 0 rfl rfl 8 (by decide) lk_X9_readClause_1 rfl rfl dX9_readClause_28 ?_
        refine r_iconst C 0 dX9_readClause_31 (by decide) ?_
        refine r_iconst C 0 dX9_readClause_32 (by decide) ?_
        refine r_iast_k (ws' := (w_X9_readClause cyI cyZ cyW a_this a_this_told a_this_st a_this_text v_this_letters v_this_place v_this_token v_this_value v_this_begins a_this_read v_this_clauses a_this_ahead v_this_undoMany a_this_isKept a_this_kept v_this_fewestMany v_this_fewestSets v_this_fewestSet v_this_fewestMost a_this_aside a_this_seens v_this_seenMany v_this_text (upd v_this_read 0 0))) C 0 2 0 rfl rfl (kk_ 0 37 (by decide) (by decide)) rfl dX9_readClause_33 ?_
        refine r_aload_n C dX9_readClause_34 rfl 1 rfl ?_
        refine r_get C in_X9_readClause_X9 0 rfl rfl 8 (by decide) lk_X9_readClause_1 rfl rfl dX9_readClause_35 ?_
        refine r_iconst C 1 dX9_readClause_38 (by decide) ?_
        refine r_iconst C 3 dX9_readClause_39 (by decide) ?_
        refine r_iast_k (ws' := (w_X9_readClause cyI cyZ cyW a_this a_this_told a_this_st a_this_text v_this_letters v_this_place v_this_token v_this_value v_this_begins a_this_read v_this_clauses a_this_ahead v_this_undoMany a_this_isKept a_this_kept v_this_fewestMany v_this_fewestSets v_this_fewestSet v_this_fewestMost a_this_aside a_this_seens v_this_seenMany v_this_text (upd (upd v_this_read 0 0) 1 3))) C 1 2 0 rfl rfl (kk_ 1 37 (by decide) (by decide)) rfl dX9_readClause_40 ?_
        refine r_aload_n C dX9_readClause_41 rfl 1 rfl ?_
        refine r_get C in_X9_readClause_X9 0 rfl rfl 8 (by decide) lk_X9_readClause_1 rfl rfl dX9_readClause_42 ?_
        refine r_iconst C 2 dX9_readClause_45 (by decide) ?_
        refine r_iconst C 0 dX9_readClause_46 (by decide) ?_
        refine r_iast_k (ws' := (w_X9_readClause cyI cyZ cyW a_this a_this_told a_this_st a_this_text v_this_letters v_this_place v_this_token v_this_value v_this_begins a_this_read v_this_clauses a_this_ahead v_this_undoMany a_this_isKept a_this_kept v_this_fewestMany v_this_fewestSets v_this_fewestSet v_this_fewestMost a_this_aside a_this_seens v_this_seenMany v_this_text (upd (upd (upd v_this_read 0 0) 1 3) 2 0))) C 2 2 0 rfl rfl (kk_ 2 37 (by decide) (by decide)) rfl dX9_readClause_47 ?_
        refine r_iconst C 1 dX9_readClause_48 (by decide) ?_
        rw [← Option.some.inj hf]
        exact r_zret (r := 1) C hr hlk rfl dX9_readClause_49
    · refine r_aload_n C dX9_readClause_16 rfl 1 rfl ?_
      refine r_iload_n C dX9_readClause_17 rfl 0 rfl ?_
      obtain ⟨y3_0, y3_1, y3_2, y3_3, y3_4, y3_5, hy4, hf⟩ := bd6_some hf
      refine r_callV_i (As := [.int y1]) (rest := []) (ws' := (w_X9_readClause cyI cyZ cyW a_this a_this_told a_this_st a_this_text v_this_letters y3_1 y3_2 y3_3 y3_4 a_this_read v_this_clauses a_this_ahead v_this_undoMany a_this_isKept a_this_kept v_this_fewestMany v_this_fewestSets v_this_fewestSet v_this_fewestMost a_this_aside a_this_seens v_this_seenMany v_this_text y3_5)) C (c_X9_readButton l D cyI cyZ cyW a_this a_this_told a_this_st a_this_text v_this_letters v_this_place v_this_token v_this_value v_this_begins a_this_read v_this_clauses a_this_ahead v_this_undoMany a_this_isKept a_this_kept v_this_fewestMany v_this_fewestSets v_this_fewestSet v_this_fewestMost a_this_aside a_this_seens v_this_seenMany v_this_read v_this_text y1 (y3_0, y3_1, y3_2, y3_3, y3_4, y3_5) hy4) gX9_readClause_X9_readButton rfl hyV_X9_readButton ⟨rfl, rfl, (Nat.le_of_ble_eq_true rfl), (Nat.le_of_ble_eq_true rfl)⟩ rfl 0 rfl rfl [0, 2, 1] rfl rfl rfl rfl rfl (Nat.le_of_ble_eq_true rfl) ⟨Nat.zero_le _, Nat.zero_le _⟩ dX9_readClause_18 ?_
      obtain ⟨hz5, hf⟩ := bz_some hf
      rw [← Option.some.inj hf]
      exact r_zret (r := y3_0) C hr hlk hz5 dX9_readClause_21
  · refine r_iconst C 0 dX9_readClause_9 (by decide) ?_
    rw [← Option.some.inj hf]
    exact r_zret (r := 0) C hr hlk rfl dX9_readClause_10

theorem lk_X9_readText_1 : Cond.fieldLink RX9 48 "ParishCoatModel" "place" "I" ∈ wsX9_readText := List.mem_of_getElem? (i := 1) rfl
theorem lk_X9_readText_2 : Cond.fieldLink RX9 101 "ParishCoatModel" "clauses" "I" ∈ wsX9_readText := List.mem_of_getElem? (i := 2) rfl
theorem lk_X9_readText_3 : Cond.fieldLink RX9 19 "ParishCoatModel" "read" "[I" ∈ wsX9_readText := List.mem_of_getElem? (i := 3) rfl
theorem lk_X9_readText_4 : Cond.fieldLink RX9 7 "ParishCoatModel" "told" "[I" ∈ wsX9_readText := List.mem_of_getElem? (i := 4) rfl
theorem lk_X9_readText_5 : Cond.fieldLink RX9 61 "ParishCoatModel" "token" "I" ∈ wsX9_readText := List.mem_of_getElem? (i := 5) rfl
theorem lk_X9_readText_6 : Cond.fieldLink RX9 58 "ParishCoatModel" "value" "I" ∈ wsX9_readText := List.mem_of_getElem? (i := 6) rfl
theorem in_X9_readText_X9 : ∀ w ∈ u_ws RX9 TX9 21, w ∈ wsX9_readText := fun _ h => List.mem_cons_of_mem _ (List.mem_append_right _ h)
theorem hyV_X9_readClause : yX9_readClause.cls = RX9 ∧ yX9_readClause.cls ≠ "java/lang/invoke/MethodHandle" ∧ yX9_readClause.cls ≠ "java/lang/invoke/VarHandle" ∧ (parseMethodDescriptor yX9_readClause.desc).map (fun d => d.parameters.length) = some 0 := by decide +kernel
theorem hyS_X9_readClause : yX9_readClause.cls ≠ "java/lang/invoke/MethodHandle" ∧ yX9_readClause.cls ≠ "java/lang/invoke/VarHandle" ∧ (parseMethodDescriptor yX9_readClause.desc).map (fun d => d.parameters.length) = some 0 := by decide +kernel
def f_X9_readText_s36 (v_this_letters : Int32) (v_this_told : Nat → Int32) (v_this_text : Nat → Int32) (k_36 : Int32 → Int32 → Int32 → Int32 → Int32 → (Nat → Int32) → Option (Int32 × Int32 × Int32 × Int32 × Int32 × Int32 × (Nat → Int32))) (v_this_place : Int32) (v_this_token : Int32) (v_this_value : Int32) (v_this_begins : Int32) (v_this_clauses : Int32) (v_this_read : Nat → Int32) : Option (Int32 × Int32 × Int32 × Int32 × Int32 × Int32 × (Nat → Int32)) := bd4 (f_X9_nextToken v_this_letters v_this_place v_this_token v_this_value v_this_begins v_this_text) (fun y3_0 y3_1 y3_2 y3_3 => bd6 (f_X9_readClause v_this_letters y3_0 y3_1 y3_2 y3_3 v_this_text v_this_read) (fun y5_0 y5_1 y5_2 y5_3 y5_4 y5_5 => if y5_0 = 0 then (some (0, y5_1, y5_2, y5_3, y5_4, v_this_clauses, y5_5)) else (bd4 (f_X9_nextToken v_this_letters y5_1 y5_2 y5_3 y5_4 v_this_text) (fun y7_0 y7_1 y7_2 y7_3 => if y7_1 = 3 then (some (1, y7_0, y7_1, y7_2, y7_3, (v_this_clauses + 1), y5_5)) else (if y7_1 = 0 then (if y7_2 = 59 then (if (v_this_clauses + 1) = 14 then (some (0, y7_0, y7_1, y7_2, y7_3, (v_this_clauses + 1), y5_5)) else (k_36 y7_0 y7_1 y7_2 y7_3 (v_this_clauses + 1) y5_5)) else (some (0, y7_0, y7_1, y7_2, y7_3, (v_this_clauses + 1), y5_5))) else (some (0, y7_0, y7_1, y7_2, y7_3, (v_this_clauses + 1), y5_5)))))))
def f_X9_readText_b36 (v_this_letters : Int32) (v_this_told : Nat → Int32) (v_this_text : Nat → Int32) (n : Nat) : Int32 → Int32 → Int32 → Int32 → Int32 → (Nat → Int32) → Option (Int32 × Int32 × Int32 × Int32 × Int32 × Int32 × (Nat → Int32)) := it_ (f_X9_readText_s36 v_this_letters v_this_told v_this_text ) (fun _ _ _ _ _ _ => none) n
def f_X9_readText_s12 (v_this_letters : Int32) (v_this_told : Nat → Int32) (v_this_text : Nat → Int32) (k_12 : Int32 → Int32 → Int32 → Int32 → Int32 → Int32 → (Nat → Int32) → Option (Int32 × Int32 × Int32 × Int32 × Int32 × Int32 × (Nat → Int32))) (x1 : Int32) (v_this_place : Int32) (v_this_token : Int32) (v_this_value : Int32) (v_this_begins : Int32) (v_this_clauses : Int32) (v_this_read : Nat → Int32) : Option (Int32 × Int32 × Int32 × Int32 × Int32 × Int32 × (Nat → Int32)) := if 36 < x1 then (f_X9_readText_b36 v_this_letters v_this_told v_this_text 5000 v_this_place v_this_token v_this_value v_this_begins v_this_clauses v_this_read) else (gd_ x1 37 (gd_ x1 37 (k_12 (x1 + 1) v_this_place v_this_token v_this_value v_this_begins v_this_clauses (upd v_this_read (Int32.toNatClampNeg x1) (v_this_told (Int32.toNatClampNeg x1))))))
def f_X9_readText_b12 (v_this_letters : Int32) (v_this_told : Nat → Int32) (v_this_text : Nat → Int32) (n : Nat) : Int32 → Int32 → Int32 → Int32 → Int32 → Int32 → (Nat → Int32) → Option (Int32 × Int32 × Int32 × Int32 × Int32 × Int32 × (Nat → Int32)) := it_ (f_X9_readText_s12 v_this_letters v_this_told v_this_text ) (fun _ _ _ _ _ _ _ => none) n
def f_X9_readText (v_this_letters : Int32) (v_this_place : Int32) (v_this_token : Int32) (v_this_value : Int32) (v_this_begins : Int32) (v_this_clauses : Int32) (v_this_told : Nat → Int32) (v_this_read : Nat → Int32) (v_this_text : Nat → Int32) : Option (Int32 × Int32 × Int32 × Int32 × Int32 × Int32 × (Nat → Int32)) := f_X9_readText_b12 v_this_letters v_this_told v_this_text 5000 0 0 v_this_token v_this_value v_this_begins 0 v_this_read
def w_X9_readText (cyI cyZ cyW : ClassId) (a_this : Nat) (a_this_told : Nat) (a_this_st : Nat) (a_this_text : Nat) (v_this_letters : Int32) (v_this_place : Int32) (v_this_token : Int32) (v_this_value : Int32) (v_this_begins : Int32) (a_this_read : Nat) (v_this_clauses : Int32) (a_this_ahead : Nat) (v_this_undoMany : Int32) (a_this_isKept : Nat) (a_this_kept : Nat) (v_this_fewestMany : Int32) (v_this_fewestSets : Int32) (v_this_fewestSet : Int32) (v_this_fewestMost : Int32) (a_this_aside : Nat) (a_this_seens : Nat) (v_this_seenMany : Int32) (v_this_told : Nat → Int32) (v_this_read : Nat → Int32) (v_this_text : Nat → Int32) : va_W := [(a_this, .inr (9, [.ref a_this_told, .ref a_this_st, .ref a_this_text, .int v_this_letters, .int v_this_place, .int v_this_token, .int v_this_value, .int v_this_begins, .ref a_this_read, .int v_this_clauses, .ref a_this_ahead, .int v_this_undoMany, .ref a_this_isKept, .ref a_this_kept, .int v_this_fewestMany, .int v_this_fewestSets, .int v_this_fewestSet, .int v_this_fewestMost, .ref a_this_aside, .ref a_this_seens, .int v_this_seenMany])), (a_this_told, .inl (cyI, 37, .inl v_this_told)), (a_this_read, .inl (cyI, 37, .inl v_this_read)), (a_this_text, .inl (cyI, 160, .inl v_this_text))]
set_option maxHeartbeats 4000000 in
set_option maxRecDepth 100000 in
theorem c_X9_readText (l : Launch) (D : va_G) (cyI cyZ cyW : ClassId) (a_this : Nat) (a_this_told : Nat) (a_this_st : Nat) (a_this_text : Nat) (v_this_letters : Int32) (v_this_place : Int32) (v_this_token : Int32) (v_this_value : Int32) (v_this_begins : Int32) (a_this_read : Nat) (v_this_clauses : Int32) (a_this_ahead : Nat) (v_this_undoMany : Int32) (a_this_isKept : Nat) (a_this_kept : Nat) (v_this_fewestMany : Int32) (v_this_fewestSets : Int32) (v_this_fewestSet : Int32) (v_this_fewestMost : Int32) (a_this_aside : Nat) (a_this_seens : Nat) (v_this_seenMany : Int32) (v_this_told : Nat → Int32) (v_this_read : Nat → Int32) (v_this_text : Nat → Int32) (res : Int32 × Int32 × Int32 × Int32 × Int32 × Int32 × (Nat → Int32)) (hf : f_X9_readText v_this_letters v_this_place v_this_token v_this_value v_this_begins v_this_clauses v_this_told v_this_read v_this_text = some res) : ∀ sz, Met l yX9_readText wsX9_readText { frames := 5, cells := 0, slots := 0, locals := 113 } (PCx D (tyG cyI cyZ cyW) [.ref a_this] (w_X9_readText cyI cyZ cyW a_this a_this_told a_this_st a_this_text v_this_letters v_this_place v_this_token v_this_value v_this_begins a_this_read v_this_clauses a_this_ahead v_this_undoMany a_this_isKept a_this_kept v_this_fewestMany v_this_fewestSets v_this_fewestSet v_this_fewestMost a_this_aside a_this_seens v_this_seenMany v_this_told v_this_read v_this_text) sz) (QI D (tyG cyI cyZ cyW) (w_X9_readText cyI cyZ cyW a_this a_this_told a_this_st a_this_text v_this_letters v_this_place v_this_token v_this_value v_this_begins a_this_read v_this_clauses a_this_ahead v_this_undoMany a_this_isKept a_this_kept v_this_fewestMany v_this_fewestSets v_this_fewestSet v_this_fewestMost a_this_aside a_this_seens v_this_seenMany v_this_told v_this_read v_this_text) sz res.1 (w_X9_readText cyI cyZ cyW a_this a_this_told a_this_st a_this_text v_this_letters res.2.1 res.2.2.1 res.2.2.2.1 res.2.2.2.2.1 a_this_read res.2.2.2.2.2.1 a_this_ahead v_this_undoMany a_this_isKept a_this_kept v_this_fewestMany v_this_fewestSets v_this_fewestSet v_this_fewestMost a_this_aside a_this_seens v_this_seenMany v_this_told res.2.2.2.2.2.2 v_this_text)) 0 0 (va_A (w_X9_readText cyI cyZ cyW a_this a_this_told a_this_st a_this_text v_this_letters v_this_place v_this_token v_this_value v_this_begins a_this_read v_this_clauses a_this_ahead v_this_undoMany a_this_isKept a_this_kept v_this_fewestMany v_this_fewestSets v_this_fewestSet v_this_fewestMost a_this_aside a_this_seens v_this_seenMany v_this_told v_this_read v_this_text) sz) := by
  intro sz
  refine met_of (cc := cX9_readText) (maxL := 2) (ret := (some .boolean)) (lv0 := [(0, .ref a_this)]) (by decide) rfl ⟨(Nat.le_of_ble_eq_true rfl), rfl⟩ ?_
  intro p e s m below meth c C hr hlk hnm hsz
  subst hsz
  have C : CX p s m _ c 2 cX9_readText RX9 wsX9_readText D (tyG cyI cyZ cyW) _ := C
  obtain ⟨Z, hZ⟩ : ∃ Z : va_W → Nat → LV → List Value → Prop, Z = ST p l e { frames := 5, cells := 0, slots := 0, locals := 113 } s m [.ref a_this].toArray below meth c 2 D (va_A (w_X9_readText cyI cyZ cyW a_this a_this_told a_this_st a_this_text v_this_letters v_this_place v_this_token v_this_value v_this_begins a_this_read v_this_clauses a_this_ahead v_this_undoMany a_this_isKept a_this_kept v_this_fewestMany v_this_fewestSets v_this_fewestSet v_this_fewestMost a_this_aside a_this_seens v_this_seenMany v_this_told v_this_read v_this_text) s.heap.size) (MQ below (QI D (tyG cyI cyZ cyW) (w_X9_readText cyI cyZ cyW a_this a_this_told a_this_st a_this_text v_this_letters v_this_place v_this_token v_this_value v_this_begins a_this_read v_this_clauses a_this_ahead v_this_undoMany a_this_isKept a_this_kept v_this_fewestMany v_this_fewestSets v_this_fewestSet v_this_fewestMost a_this_aside a_this_seens v_this_seenMany v_this_told v_this_read v_this_text) s.heap.size res.1 (w_X9_readText cyI cyZ cyW a_this a_this_told a_this_st a_this_text v_this_letters res.2.1 res.2.2.1 res.2.2.2.1 res.2.2.2.2.1 a_this_read res.2.2.2.2.2.1 a_this_ahead v_this_undoMany a_this_isKept a_this_kept v_this_fewestMany v_this_fewestSets v_this_fewestSet v_this_fewestMost a_this_aside a_this_seens v_this_seenMany v_this_told res.2.2.2.2.2.2 v_this_text)) [.ref a_this].toArray s 0 0 (va_A (w_X9_readText cyI cyZ cyW a_this a_this_told a_this_st a_this_text v_this_letters v_this_place v_this_token v_this_value v_this_begins a_this_read v_this_clauses a_this_ahead v_this_undoMany a_this_isKept a_this_kept v_this_fewestMany v_this_fewestSets v_this_fewestSet v_this_fewestMost a_this_aside a_this_seens v_this_seenMany v_this_told v_this_read v_this_text) s.heap.size)) 0 0 := ⟨_, rfl⟩
  have hs_36 : ∀ (k_36 : Int32 → Int32 → Int32 → Int32 → Int32 → (Nat → Int32) → Option (Int32 × Int32 × Int32 × Int32 × Int32 × Int32 × (Nat → Int32))), (∀ (v_this_place : Int32) (v_this_token : Int32) (v_this_value : Int32) (v_this_begins : Int32) (v_this_clauses : Int32) (v_this_read : Nat → Int32), k_36 v_this_place v_this_token v_this_value v_this_begins v_this_clauses v_this_read = some res → Z (w_X9_readText cyI cyZ cyW a_this a_this_told a_this_st a_this_text v_this_letters v_this_place v_this_token v_this_value v_this_begins a_this_read v_this_clauses a_this_ahead v_this_undoMany a_this_isKept a_this_kept v_this_fewestMany v_this_fewestSets v_this_fewestSet v_this_fewestMost a_this_aside a_this_seens v_this_seenMany v_this_told v_this_read v_this_text) 36 [(0, .ref a_this)] []) → ∀ (v_this_place : Int32) (v_this_token : Int32) (v_this_value : Int32) (v_this_begins : Int32) (v_this_clauses : Int32) (v_this_read : Nat → Int32), f_X9_readText_s36 v_this_letters v_this_told v_this_text k_36 v_this_place v_this_token v_this_value v_this_begins v_this_clauses v_this_read = some res → Z (w_X9_readText cyI cyZ cyW a_this a_this_told a_this_st a_this_text v_this_letters v_this_place v_this_token v_this_value v_this_begins a_this_read v_this_clauses a_this_ahead v_this_undoMany a_this_isKept a_this_kept v_this_fewestMany v_this_fewestSets v_this_fewestSet v_this_fewestMost a_this_aside a_this_seens v_this_seenMany v_this_told v_this_read v_this_text) 36 [(0, .ref a_this)] [] := by
    subst hZ
    intro k_36 hk_36 v_this_place v_this_token v_this_value v_this_begins v_this_clauses v_this_read hf
    refine r_aload_n C dX9_readText_36 rfl 0 rfl ?_
    obtain ⟨y3_0, y3_1, y3_2, y3_3, hy4, hf⟩ := bd4_some hf
    refine r_callV_v (As := []) (rest := []) (ws' := (w_X9_readText cyI cyZ cyW a_this a_this_told a_this_st a_this_text v_this_letters y3_0 y3_1 y3_2 y3_3 a_this_read v_this_clauses a_this_ahead v_this_undoMany a_this_isKept a_this_kept v_this_fewestMany v_this_fewestSets v_this_fewestSet v_this_fewestMost a_this_aside a_this_seens v_this_seenMany v_this_told v_this_read v_this_text)) C (c_X9_nextToken l D cyI cyZ cyW a_this a_this_told a_this_st a_this_text v_this_letters v_this_place v_this_token v_this_value v_this_begins a_this_read v_this_clauses a_this_ahead v_this_undoMany a_this_isKept a_this_kept v_this_fewestMany v_this_fewestSets v_this_fewestSet v_this_fewestMost a_this_aside a_this_seens v_this_seenMany v_this_text (y3_0, y3_1, y3_2, y3_3) hy4) gX9_readText_X9_nextToken rfl hyV_X9_nextToken ⟨rfl, rfl, (Nat.le_of_ble_eq_true rfl), (Nat.le_of_ble_eq_true rfl)⟩ rfl 0 rfl rfl [0, 3] rfl rfl rfl rfl rfl (Nat.le_of_ble_eq_true rfl) ⟨Nat.zero_le _, Nat.zero_le _⟩ dX9_readText_37 ?_
    refine r_aload_n C dX9_readText_40 rfl 0 rfl ?_
    obtain ⟨y5_0, y5_1, y5_2, y5_3, y5_4, y5_5, hy6, hf⟩ := bd6_some hf
    refine r_callV_i (As := []) (rest := []) (ws' := (w_X9_readText cyI cyZ cyW a_this a_this_told a_this_st a_this_text v_this_letters y5_1 y5_2 y5_3 y5_4 a_this_read v_this_clauses a_this_ahead v_this_undoMany a_this_isKept a_this_kept v_this_fewestMany v_this_fewestSets v_this_fewestSet v_this_fewestMost a_this_aside a_this_seens v_this_seenMany v_this_told y5_5 v_this_text)) C (c_X9_readClause l D cyI cyZ cyW a_this a_this_told a_this_st a_this_text v_this_letters y3_0 y3_1 y3_2 y3_3 a_this_read v_this_clauses a_this_ahead v_this_undoMany a_this_isKept a_this_kept v_this_fewestMany v_this_fewestSets v_this_fewestSet v_this_fewestMost a_this_aside a_this_seens v_this_seenMany v_this_text v_this_read (y5_0, y5_1, y5_2, y5_3, y5_4, y5_5) hy6) gX9_readText_X9_readClause rfl hyV_X9_readClause ⟨rfl, rfl, (Nat.le_of_ble_eq_true rfl), (Nat.le_of_ble_eq_true rfl)⟩ rfl 0 rfl rfl [0, 3, 2] rfl rfl rfl rfl rfl (Nat.le_of_ble_eq_true rfl) ⟨Nat.zero_le _, Nat.zero_le _⟩ dX9_readText_41 ?_
    refine r_if_ne C 49 dX9_readText_44 (by decide) hf (fun hf => ?_) (fun hf => ?_)
    · refine r_aload_n C dX9_readText_49 rfl 0 rfl ?_
      refine r_dup C dX9_readText_50 rfl ?_
      refine r_get C in_X9_readText_X9 0 rfl rfl 9 (by decide) lk_X9_readText_2 rfl rfl dX9_readText_51 ?_
      refine r_iconst C 1 dX9_readText_54 (by decide) ?_
      refine r_iadd C dX9_readText_55 ?_
      refine r_put (ws' := (w_X9_readText cyI cyZ cyW a_this a_this_told a_this_st a_this_text v_this_letters y5_1 y5_2 y5_3 y5_4 a_this_read (v_this_clauses + 1) a_this_ahead v_this_undoMany a_this_isKept a_this_kept v_this_fewestMany v_this_fewestSets v_this_fewestSet v_this_fewestMost a_this_aside a_this_seens v_this_seenMany v_this_told y5_5 v_this_text)) C in_X9_readText_X9 tyX9 tyX9_ok nmX9 0 rfl rfl 9 (by decide) lk_X9_readText_2 rfl rfl rfl rfl (Nat.le_of_ble_eq_true rfl) rfl dX9_readText_56 ?_
      refine r_aload_n C dX9_readText_59 rfl 0 rfl ?_
      obtain ⟨y7_0, y7_1, y7_2, y7_3, hy8, hf⟩ := bd4_some hf
      refine r_callV_v (As := []) (rest := []) (ws' := (w_X9_readText cyI cyZ cyW a_this a_this_told a_this_st a_this_text v_this_letters y7_0 y7_1 y7_2 y7_3 a_this_read (v_this_clauses + 1) a_this_ahead v_this_undoMany a_this_isKept a_this_kept v_this_fewestMany v_this_fewestSets v_this_fewestSet v_this_fewestMost a_this_aside a_this_seens v_this_seenMany v_this_told y5_5 v_this_text)) C (c_X9_nextToken l D cyI cyZ cyW a_this a_this_told a_this_st a_this_text v_this_letters y5_1 y5_2 y5_3 y5_4 a_this_read (v_this_clauses + 1) a_this_ahead v_this_undoMany a_this_isKept a_this_kept v_this_fewestMany v_this_fewestSets v_this_fewestSet v_this_fewestMost a_this_aside a_this_seens v_this_seenMany v_this_text (y7_0, y7_1, y7_2, y7_3) hy8) gX9_readText_X9_nextToken rfl hyV_X9_nextToken ⟨rfl, rfl, (Nat.le_of_ble_eq_true rfl), (Nat.le_of_ble_eq_true rfl)⟩ rfl 0 rfl rfl [0, 3] rfl rfl rfl rfl rfl (Nat.le_of_ble_eq_true rfl) ⟨Nat.zero_le _, Nat.zero_le _⟩ dX9_readText_60 ?_
      refine r_aload_n C dX9_readText_63 rfl 0 rfl ?_
      refine r_get C in_X9_readText_X9 0 rfl rfl 5 (by decide) lk_X9_readText_5 rfl rfl dX9_readText_64 ?_
      refine r_iconst C 3 dX9_readText_67 (by decide) ?_
      refine r_icmp_ne C 73 dX9_readText_68 (by decide) hf (fun hf => ?_) (fun hf => ?_)
      · refine r_aload_n C dX9_readText_73 rfl 0 rfl ?_
        refine r_get C in_X9_readText_X9 0 rfl rfl 5 (by decide) lk_X9_readText_5 rfl rfl dX9_readText_74 ?_
        refine r_if_ne C 98 dX9_readText_77 (by decide) hf (fun hf => ?_) (fun hf => ?_)
        · refine r_iconst C 0 dX9_readText_98 (by decide) ?_
          rw [← Option.some.inj hf]
          exact r_zret (r := 0) C hr hlk rfl dX9_readText_99
        · refine r_aload_n C dX9_readText_80 rfl 0 rfl ?_
          refine r_get C in_X9_readText_X9 0 rfl rfl 6 (by decide) lk_X9_readText_6 rfl rfl dX9_readText_81 ?_
          refine r_bipush C 59 dX9_readText_84 (by decide) ?_
          refine r_icmp_ne C 98 dX9_readText_86 (by decide) hf (fun hf => ?_) (fun hf => ?_)
          · refine r_iconst C 0 dX9_readText_98 (by decide) ?_
            rw [← Option.some.inj hf]
            exact r_zret (r := 0) C hr hlk rfl dX9_readText_99
          · refine r_aload_n C dX9_readText_89 rfl 0 rfl ?_
            refine r_get C in_X9_readText_X9 0 rfl rfl 9 (by decide) lk_X9_readText_2 rfl rfl dX9_readText_90 ?_
            refine r_bipush C 14 dX9_readText_93 (by decide) ?_
            refine r_icmp_ne C 36 dX9_readText_95 (by decide) hf (fun hf => ?_) (fun hf => ?_)
            · exact ST_lv [0] rfl (hk_36 y7_0 y7_1 y7_2 y7_3 (v_this_clauses + 1) y5_5 hf)
            · refine r_iconst C 0 dX9_readText_98 (by decide) ?_
              rw [← Option.some.inj hf]
              exact r_zret (r := 0) C hr hlk rfl dX9_readText_99
      · refine r_iconst C 1 dX9_readText_71 (by decide) ?_
        rw [← Option.some.inj hf]
        exact r_zret (r := 1) C hr hlk rfl dX9_readText_72
    · refine r_iconst C 0 dX9_readText_47 (by decide) ?_
      rw [← Option.some.inj hf]
      exact r_zret (r := 0) C hr hlk rfl dX9_readText_48
  have hb_36 : ∀ (n : Nat) (v_this_place : Int32) (v_this_token : Int32) (v_this_value : Int32) (v_this_begins : Int32) (v_this_clauses : Int32) (v_this_read : Nat → Int32), f_X9_readText_b36 v_this_letters v_this_told v_this_text n v_this_place v_this_token v_this_value v_this_begins v_this_clauses v_this_read = some res → Z (w_X9_readText cyI cyZ cyW a_this a_this_told a_this_st a_this_text v_this_letters v_this_place v_this_token v_this_value v_this_begins a_this_read v_this_clauses a_this_ahead v_this_undoMany a_this_isKept a_this_kept v_this_fewestMany v_this_fewestSets v_this_fewestSet v_this_fewestMost a_this_aside a_this_seens v_this_seenMany v_this_told v_this_read v_this_text) 36 [(0, .ref a_this)] [] := by
    intro  n
    induction n with
    | zero => intro v_this_place v_this_token v_this_value v_this_begins v_this_clauses v_this_read hf; exact nn_ hf
    | succ n ih => exact fun v_this_place v_this_token v_this_value v_this_begins v_this_clauses v_this_read hf => hs_36 _ ih v_this_place v_this_token v_this_value v_this_begins v_this_clauses v_this_read hf
  have hs_12 : ∀ (k_12 : Int32 → Int32 → Int32 → Int32 → Int32 → Int32 → (Nat → Int32) → Option (Int32 × Int32 × Int32 × Int32 × Int32 × Int32 × (Nat → Int32))), (∀ (x1 : Int32) (v_this_place : Int32) (v_this_token : Int32) (v_this_value : Int32) (v_this_begins : Int32) (v_this_clauses : Int32) (v_this_read : Nat → Int32), k_12 x1 v_this_place v_this_token v_this_value v_this_begins v_this_clauses v_this_read = some res → Z (w_X9_readText cyI cyZ cyW a_this a_this_told a_this_st a_this_text v_this_letters v_this_place v_this_token v_this_value v_this_begins a_this_read v_this_clauses a_this_ahead v_this_undoMany a_this_isKept a_this_kept v_this_fewestMany v_this_fewestSets v_this_fewestSet v_this_fewestMost a_this_aside a_this_seens v_this_seenMany v_this_told v_this_read v_this_text) 12 [(0, .ref a_this), (1, .int x1)] []) → ∀ (x1 : Int32) (v_this_place : Int32) (v_this_token : Int32) (v_this_value : Int32) (v_this_begins : Int32) (v_this_clauses : Int32) (v_this_read : Nat → Int32), f_X9_readText_s12 v_this_letters v_this_told v_this_text k_12 x1 v_this_place v_this_token v_this_value v_this_begins v_this_clauses v_this_read = some res → Z (w_X9_readText cyI cyZ cyW a_this a_this_told a_this_st a_this_text v_this_letters v_this_place v_this_token v_this_value v_this_begins a_this_read v_this_clauses a_this_ahead v_this_undoMany a_this_isKept a_this_kept v_this_fewestMany v_this_fewestSets v_this_fewestSet v_this_fewestMost a_this_aside a_this_seens v_this_seenMany v_this_told v_this_read v_this_text) 12 [(0, .ref a_this), (1, .int x1)] [] := by
    subst hZ
    intro k_12 hk_12 x1 v_this_place v_this_token v_this_value v_this_begins v_this_clauses v_this_read hf
    refine r_iload_n C dX9_readText_12 rfl 1 rfl ?_
    refine r_bipush C 36 dX9_readText_13 (by decide) ?_
    refine r_icmp_gt C 36 dX9_readText_15 (by decide) hf (fun hf => ?_) (fun hf => ?_)
    · exact ST_lv [0] rfl (hb_36 5000 v_this_place v_this_token v_this_value v_this_begins v_this_clauses v_this_read hf)
    · refine r_aload_n C dX9_readText_18 rfl 0 rfl ?_
      refine r_get C in_X9_readText_X9 0 rfl rfl 8 (by decide) lk_X9_readText_3 rfl rfl dX9_readText_19 ?_
      refine r_iload_n C dX9_readText_22 rfl 1 rfl ?_
      refine r_aload_n C dX9_readText_23 rfl 0 rfl ?_
      refine r_get C in_X9_readText_X9 0 rfl rfl 0 (by decide) lk_X9_readText_4 rfl rfl dX9_readText_24 ?_
      refine r_iload_n C dX9_readText_27 rfl 1 rfl ?_
      obtain ⟨hi1, hf⟩ := gd_some hf
      refine r_iald C 1 0 rfl rfl hi1 dX9_readText_28 ?_
      obtain ⟨hi2, hf⟩ := gd_some hf
      refine r_iast (ws' := (w_X9_readText cyI cyZ cyW a_this a_this_told a_this_st a_this_text v_this_letters v_this_place v_this_token v_this_value v_this_begins a_this_read v_this_clauses a_this_ahead v_this_undoMany a_this_isKept a_this_kept v_this_fewestMany v_this_fewestSets v_this_fewestSet v_this_fewestMost a_this_aside a_this_seens v_this_seenMany v_this_told (upd v_this_read (Int32.toNatClampNeg x1) (v_this_told (Int32.toNatClampNeg x1))) v_this_text)) C 2 0 rfl rfl hi2 rfl dX9_readText_29 ?_
      refine r_iinc (v := 1) (k := 1) (lv' := [(1, .int (x1 + 1)), (0, .ref a_this)]) C dX9_readText_30 rfl (by decide) (by decide) rfl ?_
      refine r_goto C 12 dX9_readText_33 (by decide) ?_
      exact ST_lv [1, 0] rfl (hk_12 (x1 + 1) v_this_place v_this_token v_this_value v_this_begins v_this_clauses (upd v_this_read (Int32.toNatClampNeg x1) (v_this_told (Int32.toNatClampNeg x1))) hf)
  have hb_12 : ∀ (n : Nat) (x1 : Int32) (v_this_place : Int32) (v_this_token : Int32) (v_this_value : Int32) (v_this_begins : Int32) (v_this_clauses : Int32) (v_this_read : Nat → Int32), f_X9_readText_b12 v_this_letters v_this_told v_this_text n x1 v_this_place v_this_token v_this_value v_this_begins v_this_clauses v_this_read = some res → Z (w_X9_readText cyI cyZ cyW a_this a_this_told a_this_st a_this_text v_this_letters v_this_place v_this_token v_this_value v_this_begins a_this_read v_this_clauses a_this_ahead v_this_undoMany a_this_isKept a_this_kept v_this_fewestMany v_this_fewestSets v_this_fewestSet v_this_fewestMost a_this_aside a_this_seens v_this_seenMany v_this_told v_this_read v_this_text) 12 [(0, .ref a_this), (1, .int x1)] [] := by
    intro  n
    induction n with
    | zero => intro x1 v_this_place v_this_token v_this_value v_this_begins v_this_clauses v_this_read hf; exact nn_ hf
    | succ n ih => exact fun x1 v_this_place v_this_token v_this_value v_this_begins v_this_clauses v_this_read hf => hs_12 _ ih x1 v_this_place v_this_token v_this_value v_this_begins v_this_clauses v_this_read hf
  subst hZ
  refine r_aload_n C dX9_readText_0 rfl 0 rfl ?_
  refine r_iconst C 0 dX9_readText_1 (by decide) ?_
  refine r_put (ws' := (w_X9_readText cyI cyZ cyW a_this a_this_told a_this_st a_this_text v_this_letters 0 v_this_token v_this_value v_this_begins a_this_read v_this_clauses a_this_ahead v_this_undoMany a_this_isKept a_this_kept v_this_fewestMany v_this_fewestSets v_this_fewestSet v_this_fewestMost a_this_aside a_this_seens v_this_seenMany v_this_told v_this_read v_this_text)) C in_X9_readText_X9 tyX9 tyX9_ok nmX9 0 rfl rfl 4 (by decide) lk_X9_readText_1 rfl rfl rfl rfl (Nat.le_of_ble_eq_true rfl) rfl dX9_readText_2 ?_
  refine r_aload_n C dX9_readText_5 rfl 0 rfl ?_
  refine r_iconst C 0 dX9_readText_6 (by decide) ?_
  refine r_put (ws' := (w_X9_readText cyI cyZ cyW a_this a_this_told a_this_st a_this_text v_this_letters 0 v_this_token v_this_value v_this_begins a_this_read 0 a_this_ahead v_this_undoMany a_this_isKept a_this_kept v_this_fewestMany v_this_fewestSets v_this_fewestSet v_this_fewestMost a_this_aside a_this_seens v_this_seenMany v_this_told v_this_read v_this_text)) C in_X9_readText_X9 tyX9 tyX9_ok nmX9 0 rfl rfl 9 (by decide) lk_X9_readText_2 rfl rfl rfl rfl (Nat.le_of_ble_eq_true rfl) rfl dX9_readText_7 ?_
  refine r_iconst C 0 dX9_readText_10 (by decide) ?_
  refine r_istore_n (lv' := [(1, .int 0), (0, .ref a_this)]) C dX9_readText_11 rfl (by decide) rfl ?_
  exact ST_lv [1, 0] rfl (hb_12 5000 0 0 v_this_token v_this_value v_this_begins 0 v_this_read hf)

theorem lk_X9_fault_1 : Cond.fieldLink RX9 55 "ParishCoatModel" "begins" "I" ∈ wsX9_fault := List.mem_of_getElem? (i := 1) rfl
theorem in_X9_fault_X9 : ∀ w ∈ u_ws RX9 TX9 21, w ∈ wsX9_fault := fun _ h => List.mem_cons_of_mem _ (List.mem_append_right _ h)
theorem hyV_X9_readText : yX9_readText.cls = RX9 ∧ yX9_readText.cls ≠ "java/lang/invoke/MethodHandle" ∧ yX9_readText.cls ≠ "java/lang/invoke/VarHandle" ∧ (parseMethodDescriptor yX9_readText.desc).map (fun d => d.parameters.length) = some 0 := by decide +kernel
theorem hyS_X9_readText : yX9_readText.cls ≠ "java/lang/invoke/MethodHandle" ∧ yX9_readText.cls ≠ "java/lang/invoke/VarHandle" ∧ (parseMethodDescriptor yX9_readText.desc).map (fun d => d.parameters.length) = some 0 := by decide +kernel
def f_X9_fault (v_this_letters : Int32) (v_this_place : Int32) (v_this_token : Int32) (v_this_value : Int32) (v_this_begins : Int32) (v_this_clauses : Int32) (v_this_told : Nat → Int32) (v_this_read : Nat → Int32) (v_this_text : Nat → Int32) : Option (Int32 × Int32 × Int32 × Int32 × Int32 × Int32 × (Nat → Int32)) := bd7 (f_X9_readText v_this_letters v_this_place v_this_token v_this_value v_this_begins v_this_clauses v_this_told v_this_read v_this_text) (fun y1_0 y1_1 y1_2 y1_3 y1_4 y1_5 y1_6 => if y1_0 = 0 then (some (y1_4, y1_1, y1_2, y1_3, y1_4, y1_5, y1_6)) else (some ((-1), y1_1, y1_2, y1_3, y1_4, y1_5, y1_6)))
def w_X9_fault (cyI cyZ cyW : ClassId) (a_this : Nat) (a_this_told : Nat) (a_this_st : Nat) (a_this_text : Nat) (v_this_letters : Int32) (v_this_place : Int32) (v_this_token : Int32) (v_this_value : Int32) (v_this_begins : Int32) (a_this_read : Nat) (v_this_clauses : Int32) (a_this_ahead : Nat) (v_this_undoMany : Int32) (a_this_isKept : Nat) (a_this_kept : Nat) (v_this_fewestMany : Int32) (v_this_fewestSets : Int32) (v_this_fewestSet : Int32) (v_this_fewestMost : Int32) (a_this_aside : Nat) (a_this_seens : Nat) (v_this_seenMany : Int32) (v_this_told : Nat → Int32) (v_this_read : Nat → Int32) (v_this_text : Nat → Int32) : va_W := [(a_this, .inr (9, [.ref a_this_told, .ref a_this_st, .ref a_this_text, .int v_this_letters, .int v_this_place, .int v_this_token, .int v_this_value, .int v_this_begins, .ref a_this_read, .int v_this_clauses, .ref a_this_ahead, .int v_this_undoMany, .ref a_this_isKept, .ref a_this_kept, .int v_this_fewestMany, .int v_this_fewestSets, .int v_this_fewestSet, .int v_this_fewestMost, .ref a_this_aside, .ref a_this_seens, .int v_this_seenMany])), (a_this_told, .inl (cyI, 37, .inl v_this_told)), (a_this_read, .inl (cyI, 37, .inl v_this_read)), (a_this_text, .inl (cyI, 160, .inl v_this_text))]
set_option maxHeartbeats 4000000 in
set_option maxRecDepth 100000 in
theorem c_X9_fault (l : Launch) (D : va_G) (cyI cyZ cyW : ClassId) (a_this : Nat) (a_this_told : Nat) (a_this_st : Nat) (a_this_text : Nat) (v_this_letters : Int32) (v_this_place : Int32) (v_this_token : Int32) (v_this_value : Int32) (v_this_begins : Int32) (a_this_read : Nat) (v_this_clauses : Int32) (a_this_ahead : Nat) (v_this_undoMany : Int32) (a_this_isKept : Nat) (a_this_kept : Nat) (v_this_fewestMany : Int32) (v_this_fewestSets : Int32) (v_this_fewestSet : Int32) (v_this_fewestMost : Int32) (a_this_aside : Nat) (a_this_seens : Nat) (v_this_seenMany : Int32) (v_this_told : Nat → Int32) (v_this_read : Nat → Int32) (v_this_text : Nat → Int32) (res : Int32 × Int32 × Int32 × Int32 × Int32 × Int32 × (Nat → Int32)) (hf : f_X9_fault v_this_letters v_this_place v_this_token v_this_value v_this_begins v_this_clauses v_this_told v_this_read v_this_text = some res) : ∀ sz, Met l yX9_fault wsX9_fault { frames := 6, cells := 0, slots := 0, locals := 134 } (PCx D (tyG cyI cyZ cyW) [.ref a_this] (w_X9_fault cyI cyZ cyW a_this a_this_told a_this_st a_this_text v_this_letters v_this_place v_this_token v_this_value v_this_begins a_this_read v_this_clauses a_this_ahead v_this_undoMany a_this_isKept a_this_kept v_this_fewestMany v_this_fewestSets v_this_fewestSet v_this_fewestMost a_this_aside a_this_seens v_this_seenMany v_this_told v_this_read v_this_text) sz) (QI D (tyG cyI cyZ cyW) (w_X9_fault cyI cyZ cyW a_this a_this_told a_this_st a_this_text v_this_letters v_this_place v_this_token v_this_value v_this_begins a_this_read v_this_clauses a_this_ahead v_this_undoMany a_this_isKept a_this_kept v_this_fewestMany v_this_fewestSets v_this_fewestSet v_this_fewestMost a_this_aside a_this_seens v_this_seenMany v_this_told v_this_read v_this_text) sz res.1 (w_X9_fault cyI cyZ cyW a_this a_this_told a_this_st a_this_text v_this_letters res.2.1 res.2.2.1 res.2.2.2.1 res.2.2.2.2.1 a_this_read res.2.2.2.2.2.1 a_this_ahead v_this_undoMany a_this_isKept a_this_kept v_this_fewestMany v_this_fewestSets v_this_fewestSet v_this_fewestMost a_this_aside a_this_seens v_this_seenMany v_this_told res.2.2.2.2.2.2 v_this_text)) 0 0 (va_A (w_X9_fault cyI cyZ cyW a_this a_this_told a_this_st a_this_text v_this_letters v_this_place v_this_token v_this_value v_this_begins a_this_read v_this_clauses a_this_ahead v_this_undoMany a_this_isKept a_this_kept v_this_fewestMany v_this_fewestSets v_this_fewestSet v_this_fewestMost a_this_aside a_this_seens v_this_seenMany v_this_told v_this_read v_this_text) sz) := by
  intro sz
  refine met_of (cc := cX9_fault) (maxL := 1) (ret := (some .int)) (lv0 := [(0, .ref a_this)]) (by decide) rfl ⟨(Nat.le_of_ble_eq_true rfl), rfl⟩ ?_
  intro p e s m below meth c C hr hlk hnm hsz
  subst hsz
  have C : CX p s m _ c 1 cX9_fault RX9 wsX9_fault D (tyG cyI cyZ cyW) _ := C
  refine r_aload_n C dX9_fault_0 rfl 0 rfl ?_
  obtain ⟨y1_0, y1_1, y1_2, y1_3, y1_4, y1_5, y1_6, hy2, hf⟩ := bd7_some hf
  refine r_callV_i (As := []) (rest := []) (ws' := (w_X9_fault cyI cyZ cyW a_this a_this_told a_this_st a_this_text v_this_letters y1_1 y1_2 y1_3 y1_4 a_this_read y1_5 a_this_ahead v_this_undoMany a_this_isKept a_this_kept v_this_fewestMany v_this_fewestSets v_this_fewestSet v_this_fewestMost a_this_aside a_this_seens v_this_seenMany v_this_told y1_6 v_this_text)) C (c_X9_readText l D cyI cyZ cyW a_this a_this_told a_this_st a_this_text v_this_letters v_this_place v_this_token v_this_value v_this_begins a_this_read v_this_clauses a_this_ahead v_this_undoMany a_this_isKept a_this_kept v_this_fewestMany v_this_fewestSets v_this_fewestSet v_this_fewestMost a_this_aside a_this_seens v_this_seenMany v_this_told v_this_read v_this_text (y1_0, y1_1, y1_2, y1_3, y1_4, y1_5, y1_6) hy2) gX9_fault_X9_readText rfl hyV_X9_readText ⟨rfl, rfl, (Nat.le_of_ble_eq_true rfl), (Nat.le_of_ble_eq_true rfl)⟩ rfl 0 rfl rfl [0, 1, 2, 3] rfl rfl rfl rfl rfl (Nat.le_of_ble_eq_true rfl) ⟨Nat.zero_le _, Nat.zero_le _⟩ dX9_fault_1 ?_
  refine r_if_eq C 11 dX9_fault_4 (by decide) hf (fun hf => ?_) (fun hf => ?_)
  · refine r_aload_n C dX9_fault_11 rfl 0 rfl ?_
    refine r_get C in_X9_fault_X9 0 rfl rfl 7 (by decide) lk_X9_fault_1 rfl rfl dX9_fault_12 ?_
    rw [← Option.some.inj hf]
    exact r_iret C hr hlk dX9_fault_15
  · refine r_iconst C (-1) dX9_fault_7 (by decide) ?_
    refine r_goto C 15 dX9_fault_8 (by decide) ?_
    rw [← Option.some.inj hf]
    exact r_iret C hr hlk dX9_fault_15

theorem lk_X9_coat_1 : Cond.fieldLink RX9 44 "ParishCoatModel" "letters" "I" ∈ wsX9_coat := List.mem_of_getElem? (i := 1) rfl
theorem lk_X9_coat_2 : Cond.fieldLink RX9 7 "ParishCoatModel" "told" "[I" ∈ wsX9_coat := List.mem_of_getElem? (i := 2) rfl
theorem lk_X9_coat_3 : Cond.fieldLink RX9 19 "ParishCoatModel" "read" "[I" ∈ wsX9_coat := List.mem_of_getElem? (i := 3) rfl
theorem lk_X9_coat_4 : Cond.fieldLink RX9 13 "ParishCoatModel" "st" "[I" ∈ wsX9_coat := List.mem_of_getElem? (i := 4) rfl
theorem lk_X9_coat_5 : Cond.fieldLink RX9 111 "ParishCoatModel" "seenMany" "I" ∈ wsX9_coat := List.mem_of_getElem? (i := 5) rfl
theorem lk_X9_coat_6 : Cond.fieldLink RX9 114 "ParishCoatModel" "undoMany" "I" ∈ wsX9_coat := List.mem_of_getElem? (i := 6) rfl
theorem lk_X9_coat_7 : Cond.fieldLink RX9 25 "ParishCoatModel" "isKept" "[Z" ∈ wsX9_coat := List.mem_of_getElem? (i := 7) rfl
theorem lk_X9_coat_8 : Cond.fieldLink RX9 101 "ParishCoatModel" "clauses" "I" ∈ wsX9_coat := List.mem_of_getElem? (i := 8) rfl
theorem in_X9_coat_X9 : ∀ w ∈ u_ws RX9 TX9 21, w ∈ wsX9_coat := fun _ h => List.mem_cons_of_mem _ (List.mem_append_right _ h)
def f_X9_coat_b106 (v_this_text : Nat → Int32) (k_43 : Int32 → Int32 → Int32 → Int32 → Int32 → Int32 → Int32 → Int32 → Int32 → (Nat → Int32) → (Nat → Int32) → (Nat → Int32) → (Nat → Int32) → Option (Int32 × Int32 × Int32 × Int32 × Int32 × Int32 × Int32 × Int32 × Int32 × (Nat → Int32) × (Nat → Int32) × (Nat → Int32) × (Nat → Int32))) (x1 : Int32) (s0 : Int32) (s1 : Int32) (v_this_letters : Int32) (v_this_place : Int32) (v_this_token : Int32) (v_this_value : Int32) (v_this_begins : Int32) (v_this_clauses : Int32) (v_this_undoMany : Int32) (v_this_seenMany : Int32) (v_this_told : Nat → Int32) (v_this_read : Nat → Int32) (v_this_st : Nat → Int32) (v_this_isKept : Nat → Int32) : Option (Int32 × Int32 × Int32 × Int32 × Int32 × Int32 × Int32 × Int32 × Int32 × (Nat → Int32) × (Nat → Int32) × (Nat → Int32) × (Nat → Int32)) := gd_ s1 15 (k_43 (x1 + 1) v_this_letters v_this_place v_this_token v_this_value v_this_begins v_this_clauses v_this_undoMany v_this_seenMany v_this_told v_this_read (upd v_this_st (Int32.toNatClampNeg s1) s0) v_this_isKept)
def f_X9_coat_b80 (v_this_text : Nat → Int32) (k_43 : Int32 → Int32 → Int32 → Int32 → Int32 → Int32 → Int32 → Int32 → Int32 → (Nat → Int32) → (Nat → Int32) → (Nat → Int32) → (Nat → Int32) → Option (Int32 × Int32 × Int32 × Int32 × Int32 × Int32 × Int32 × Int32 × Int32 × (Nat → Int32) × (Nat → Int32) × (Nat → Int32) × (Nat → Int32))) (x1 : Int32) (x2 : Int32) (s0 : Int32) (s1 : Int32) (v_this_letters : Int32) (v_this_place : Int32) (v_this_token : Int32) (v_this_value : Int32) (v_this_begins : Int32) (v_this_clauses : Int32) (v_this_undoMany : Int32) (v_this_seenMany : Int32) (v_this_told : Nat → Int32) (v_this_read : Nat → Int32) (v_this_st : Nat → Int32) (v_this_isKept : Nat → Int32) : Option (Int32 × Int32 × Int32 × Int32 × Int32 × Int32 × Int32 × Int32 × Int32 × (Nat → Int32) × (Nat → Int32) × (Nat → Int32) × (Nat → Int32)) := gd_ s1 15 (if x2 = 0 then (f_X9_coat_b106 v_this_text k_43 x1 0 (7 + x1) v_this_letters v_this_place v_this_token v_this_value v_this_begins v_this_clauses v_this_undoMany v_this_seenMany v_this_told v_this_read (upd v_this_st (Int32.toNatClampNeg s1) s0) v_this_isKept) else (gd_ (24 + x1) 37 (f_X9_coat_b106 v_this_text k_43 x1 (v_this_told (Int32.toNatClampNeg (24 + x1))) (7 + x1) v_this_letters v_this_place v_this_token v_this_value v_this_begins v_this_clauses v_this_undoMany v_this_seenMany v_this_told v_this_read (upd v_this_st (Int32.toNatClampNeg s1) s0) v_this_isKept)))
def f_X9_coat_b64 (v_this_text : Nat → Int32) (k_43 : Int32 → Int32 → Int32 → Int32 → Int32 → Int32 → Int32 → Int32 → Int32 → (Nat → Int32) → (Nat → Int32) → (Nat → Int32) → (Nat → Int32) → Option (Int32 × Int32 × Int32 × Int32 × Int32 × Int32 × Int32 × Int32 × Int32 × (Nat → Int32) × (Nat → Int32) × (Nat → Int32) × (Nat → Int32))) (x1 : Int32) (s0 : Int32) (v_this_letters : Int32) (v_this_place : Int32) (v_this_token : Int32) (v_this_value : Int32) (v_this_begins : Int32) (v_this_clauses : Int32) (v_this_undoMany : Int32) (v_this_seenMany : Int32) (v_this_told : Nat → Int32) (v_this_read : Nat → Int32) (v_this_st : Nat → Int32) (v_this_isKept : Nat → Int32) : Option (Int32 × Int32 × Int32 × Int32 × Int32 × Int32 × Int32 × Int32 × Int32 × (Nat → Int32) × (Nat → Int32) × (Nat → Int32) × (Nat → Int32)) := if s0 = 0 then (f_X9_coat_b80 v_this_text k_43 x1 s0 0 x1 v_this_letters v_this_place v_this_token v_this_value v_this_begins v_this_clauses v_this_undoMany v_this_seenMany v_this_told v_this_read v_this_st v_this_isKept) else (f_X9_coat_b80 v_this_text k_43 x1 s0 20 x1 v_this_letters v_this_place v_this_token v_this_value v_this_begins v_this_clauses v_this_undoMany v_this_seenMany v_this_told v_this_read v_this_st v_this_isKept)
def f_X9_coat_s43 (v_this_text : Nat → Int32) (k_43 : Int32 → Int32 → Int32 → Int32 → Int32 → Int32 → Int32 → Int32 → Int32 → (Nat → Int32) → (Nat → Int32) → (Nat → Int32) → (Nat → Int32) → Option (Int32 × Int32 × Int32 × Int32 × Int32 × Int32 × Int32 × Int32 × Int32 × (Nat → Int32) × (Nat → Int32) × (Nat → Int32) × (Nat → Int32))) (x1 : Int32) (v_this_letters : Int32) (v_this_place : Int32) (v_this_token : Int32) (v_this_value : Int32) (v_this_begins : Int32) (v_this_clauses : Int32) (v_this_undoMany : Int32) (v_this_seenMany : Int32) (v_this_told : Nat → Int32) (v_this_read : Nat → Int32) (v_this_st : Nat → Int32) (v_this_isKept : Nat → Int32) : Option (Int32 × Int32 × Int32 × Int32 × Int32 × Int32 × Int32 × Int32 × Int32 × (Nat → Int32) × (Nat → Int32) × (Nat → Int32) × (Nat → Int32)) := if 7 ≤ x1 then (some (v_this_clauses, v_this_letters, v_this_place, v_this_token, v_this_value, v_this_begins, v_this_clauses, 0, 0, v_this_told, v_this_read, (upd v_this_st 14 0), (upd (upd v_this_isKept 0 (vp_nar .boolean 0)) 1 (vp_nar .boolean 0)))) else (if (v_this_told 0) ≤ x1 then (f_X9_coat_b64 v_this_text k_43 x1 0 v_this_letters v_this_place v_this_token v_this_value v_this_begins v_this_clauses v_this_undoMany v_this_seenMany v_this_told v_this_read v_this_st v_this_isKept) else (f_X9_coat_b64 v_this_text k_43 x1 1 v_this_letters v_this_place v_this_token v_this_value v_this_begins v_this_clauses v_this_undoMany v_this_seenMany v_this_told v_this_read v_this_st v_this_isKept))
def f_X9_coat_b43 (v_this_text : Nat → Int32) (n : Nat) : Int32 → Int32 → Int32 → Int32 → Int32 → Int32 → Int32 → Int32 → Int32 → (Nat → Int32) → (Nat → Int32) → (Nat → Int32) → (Nat → Int32) → Option (Int32 × Int32 × Int32 × Int32 × Int32 × Int32 × Int32 × Int32 × Int32 × (Nat → Int32) × (Nat → Int32) × (Nat → Int32) × (Nat → Int32)) := it_ (f_X9_coat_s43 v_this_text ) (fun _ _ _ _ _ _ _ _ _ _ _ _ _ => none) n
def f_X9_coat_s17 (v_this_text : Nat → Int32) (k_17 : Int32 → Int32 → Int32 → Int32 → Int32 → Int32 → Int32 → Int32 → Int32 → (Nat → Int32) → (Nat → Int32) → (Nat → Int32) → (Nat → Int32) → Option (Int32 × Int32 × Int32 × Int32 × Int32 × Int32 × Int32 × Int32 × Int32 × (Nat → Int32) × (Nat → Int32) × (Nat → Int32) × (Nat → Int32))) (x1 : Int32) (v_this_letters : Int32) (v_this_place : Int32) (v_this_token : Int32) (v_this_value : Int32) (v_this_begins : Int32) (v_this_clauses : Int32) (v_this_undoMany : Int32) (v_this_seenMany : Int32) (v_this_told : Nat → Int32) (v_this_read : Nat → Int32) (v_this_st : Nat → Int32) (v_this_isKept : Nat → Int32) : Option (Int32 × Int32 × Int32 × Int32 × Int32 × Int32 × Int32 × Int32 × Int32 × (Nat → Int32) × (Nat → Int32) × (Nat → Int32) × (Nat → Int32)) := if 36 < x1 then (f_X9_coat_b43 v_this_text 5000 0 v_this_letters v_this_place v_this_token v_this_value v_this_begins v_this_clauses v_this_undoMany v_this_seenMany v_this_told v_this_read v_this_st v_this_isKept) else (gd_ x1 37 (gd_ x1 37 (k_17 (x1 + 1) v_this_letters v_this_place v_this_token v_this_value v_this_begins v_this_clauses v_this_undoMany v_this_seenMany (upd v_this_told (Int32.toNatClampNeg x1) (v_this_read (Int32.toNatClampNeg x1))) v_this_read v_this_st v_this_isKept)))
def f_X9_coat_b17 (v_this_text : Nat → Int32) (n : Nat) : Int32 → Int32 → Int32 → Int32 → Int32 → Int32 → Int32 → Int32 → Int32 → (Nat → Int32) → (Nat → Int32) → (Nat → Int32) → (Nat → Int32) → Option (Int32 × Int32 × Int32 × Int32 × Int32 × Int32 × Int32 × Int32 × Int32 × (Nat → Int32) × (Nat → Int32) × (Nat → Int32) × (Nat → Int32)) := it_ (f_X9_coat_s17 v_this_text ) (fun _ _ _ _ _ _ _ _ _ _ _ _ _ => none) n
def f_X9_coat (v_this_letters : Int32) (v_this_place : Int32) (v_this_token : Int32) (v_this_value : Int32) (v_this_begins : Int32) (v_this_clauses : Int32) (v_this_undoMany : Int32) (v_this_seenMany : Int32) (v_this_told : Nat → Int32) (v_this_read : Nat → Int32) (v_this_text : Nat → Int32) (v_this_st : Nat → Int32) (v_this_isKept : Nat → Int32) : Option (Int32 × Int32 × Int32 × Int32 × Int32 × Int32 × Int32 × Int32 × Int32 × (Nat → Int32) × (Nat → Int32) × (Nat → Int32) × (Nat → Int32)) := bd7 (f_X9_readText v_this_letters v_this_place v_this_token v_this_value v_this_begins v_this_clauses v_this_told v_this_read v_this_text) (fun y1_0 y1_1 y1_2 y1_3 y1_4 y1_5 y1_6 => if y1_0 = 0 then (some ((-4), v_this_letters, y1_1, y1_2, y1_3, y1_4, y1_5, v_this_undoMany, v_this_seenMany, v_this_told, y1_6, v_this_st, v_this_isKept)) else (f_X9_coat_b17 v_this_text 5000 0 0 y1_1 y1_2 y1_3 y1_4 y1_5 v_this_undoMany v_this_seenMany v_this_told y1_6 v_this_st v_this_isKept))
def w_X9_coat (cyI cyZ cyW : ClassId) (a_this : Nat) (a_this_told : Nat) (a_this_st : Nat) (a_this_text : Nat) (v_this_letters : Int32) (v_this_place : Int32) (v_this_token : Int32) (v_this_value : Int32) (v_this_begins : Int32) (a_this_read : Nat) (v_this_clauses : Int32) (a_this_ahead : Nat) (v_this_undoMany : Int32) (a_this_isKept : Nat) (a_this_kept : Nat) (v_this_fewestMany : Int32) (v_this_fewestSets : Int32) (v_this_fewestSet : Int32) (v_this_fewestMost : Int32) (a_this_aside : Nat) (a_this_seens : Nat) (v_this_seenMany : Int32) (v_this_told : Nat → Int32) (v_this_read : Nat → Int32) (v_this_text : Nat → Int32) (v_this_st : Nat → Int32) (v_this_isKept : Nat → Int32) : va_W := [(a_this, .inr (9, [.ref a_this_told, .ref a_this_st, .ref a_this_text, .int v_this_letters, .int v_this_place, .int v_this_token, .int v_this_value, .int v_this_begins, .ref a_this_read, .int v_this_clauses, .ref a_this_ahead, .int v_this_undoMany, .ref a_this_isKept, .ref a_this_kept, .int v_this_fewestMany, .int v_this_fewestSets, .int v_this_fewestSet, .int v_this_fewestMost, .ref a_this_aside, .ref a_this_seens, .int v_this_seenMany])), (a_this_told, .inl (cyI, 37, .inl v_this_told)), (a_this_read, .inl (cyI, 37, .inl v_this_read)), (a_this_text, .inl (cyI, 160, .inl v_this_text)), (a_this_st, .inl (cyI, 15, .inl v_this_st)), (a_this_isKept, .inl (cyZ, 2, .inl v_this_isKept))]
set_option maxHeartbeats 4000000 in
set_option maxRecDepth 100000 in
theorem c_X9_coat (l : Launch) (D : va_G) (cyI cyZ cyW : ClassId) (a_this : Nat) (a_this_told : Nat) (a_this_st : Nat) (a_this_text : Nat) (v_this_letters : Int32) (v_this_place : Int32) (v_this_token : Int32) (v_this_value : Int32) (v_this_begins : Int32) (a_this_read : Nat) (v_this_clauses : Int32) (a_this_ahead : Nat) (v_this_undoMany : Int32) (a_this_isKept : Nat) (a_this_kept : Nat) (v_this_fewestMany : Int32) (v_this_fewestSets : Int32) (v_this_fewestSet : Int32) (v_this_fewestMost : Int32) (a_this_aside : Nat) (a_this_seens : Nat) (v_this_seenMany : Int32) (v_this_told : Nat → Int32) (v_this_read : Nat → Int32) (v_this_text : Nat → Int32) (v_this_st : Nat → Int32) (v_this_isKept : Nat → Int32) (res : Int32 × Int32 × Int32 × Int32 × Int32 × Int32 × Int32 × Int32 × Int32 × (Nat → Int32) × (Nat → Int32) × (Nat → Int32) × (Nat → Int32)) (hf : f_X9_coat v_this_letters v_this_place v_this_token v_this_value v_this_begins v_this_clauses v_this_undoMany v_this_seenMany v_this_told v_this_read v_this_text v_this_st v_this_isKept = some res) : ∀ sz, Met l yX9_coat wsX9_coat { frames := 6, cells := 0, slots := 0, locals := 134 } (PCx D (tyG cyI cyZ cyW) [.ref a_this] (w_X9_coat cyI cyZ cyW a_this a_this_told a_this_st a_this_text v_this_letters v_this_place v_this_token v_this_value v_this_begins a_this_read v_this_clauses a_this_ahead v_this_undoMany a_this_isKept a_this_kept v_this_fewestMany v_this_fewestSets v_this_fewestSet v_this_fewestMost a_this_aside a_this_seens v_this_seenMany v_this_told v_this_read v_this_text v_this_st v_this_isKept) sz) (QI D (tyG cyI cyZ cyW) (w_X9_coat cyI cyZ cyW a_this a_this_told a_this_st a_this_text v_this_letters v_this_place v_this_token v_this_value v_this_begins a_this_read v_this_clauses a_this_ahead v_this_undoMany a_this_isKept a_this_kept v_this_fewestMany v_this_fewestSets v_this_fewestSet v_this_fewestMost a_this_aside a_this_seens v_this_seenMany v_this_told v_this_read v_this_text v_this_st v_this_isKept) sz res.1 (w_X9_coat cyI cyZ cyW a_this a_this_told a_this_st a_this_text res.2.1 res.2.2.1 res.2.2.2.1 res.2.2.2.2.1 res.2.2.2.2.2.1 a_this_read res.2.2.2.2.2.2.1 a_this_ahead res.2.2.2.2.2.2.2.1 a_this_isKept a_this_kept v_this_fewestMany v_this_fewestSets v_this_fewestSet v_this_fewestMost a_this_aside a_this_seens res.2.2.2.2.2.2.2.2.1 res.2.2.2.2.2.2.2.2.2.1 res.2.2.2.2.2.2.2.2.2.2.1 v_this_text res.2.2.2.2.2.2.2.2.2.2.2.1 res.2.2.2.2.2.2.2.2.2.2.2.2)) 0 0 (va_A (w_X9_coat cyI cyZ cyW a_this a_this_told a_this_st a_this_text v_this_letters v_this_place v_this_token v_this_value v_this_begins a_this_read v_this_clauses a_this_ahead v_this_undoMany a_this_isKept a_this_kept v_this_fewestMany v_this_fewestSets v_this_fewestSet v_this_fewestMost a_this_aside a_this_seens v_this_seenMany v_this_told v_this_read v_this_text v_this_st v_this_isKept) sz) := by
  intro sz
  refine met_of (cc := cX9_coat) (maxL := 3) (ret := (some .int)) (lv0 := [(0, .ref a_this)]) (by decide) rfl ⟨(Nat.le_of_ble_eq_true rfl), rfl⟩ ?_
  intro p e s m below meth c C hr hlk hnm hsz
  subst hsz
  have C : CX p s m _ c 3 cX9_coat RX9 wsX9_coat D (tyG cyI cyZ cyW) _ := C
  obtain ⟨Z, hZ⟩ : ∃ Z : va_W → Nat → LV → List Value → Prop, Z = ST p l e { frames := 6, cells := 0, slots := 0, locals := 134 } s m [.ref a_this].toArray below meth c 3 D (va_A (w_X9_coat cyI cyZ cyW a_this a_this_told a_this_st a_this_text v_this_letters v_this_place v_this_token v_this_value v_this_begins a_this_read v_this_clauses a_this_ahead v_this_undoMany a_this_isKept a_this_kept v_this_fewestMany v_this_fewestSets v_this_fewestSet v_this_fewestMost a_this_aside a_this_seens v_this_seenMany v_this_told v_this_read v_this_text v_this_st v_this_isKept) s.heap.size) (MQ below (QI D (tyG cyI cyZ cyW) (w_X9_coat cyI cyZ cyW a_this a_this_told a_this_st a_this_text v_this_letters v_this_place v_this_token v_this_value v_this_begins a_this_read v_this_clauses a_this_ahead v_this_undoMany a_this_isKept a_this_kept v_this_fewestMany v_this_fewestSets v_this_fewestSet v_this_fewestMost a_this_aside a_this_seens v_this_seenMany v_this_told v_this_read v_this_text v_this_st v_this_isKept) s.heap.size res.1 (w_X9_coat cyI cyZ cyW a_this a_this_told a_this_st a_this_text res.2.1 res.2.2.1 res.2.2.2.1 res.2.2.2.2.1 res.2.2.2.2.2.1 a_this_read res.2.2.2.2.2.2.1 a_this_ahead res.2.2.2.2.2.2.2.1 a_this_isKept a_this_kept v_this_fewestMany v_this_fewestSets v_this_fewestSet v_this_fewestMost a_this_aside a_this_seens res.2.2.2.2.2.2.2.2.1 res.2.2.2.2.2.2.2.2.2.1 res.2.2.2.2.2.2.2.2.2.2.1 v_this_text res.2.2.2.2.2.2.2.2.2.2.2.1 res.2.2.2.2.2.2.2.2.2.2.2.2)) [.ref a_this].toArray s 0 0 (va_A (w_X9_coat cyI cyZ cyW a_this a_this_told a_this_st a_this_text v_this_letters v_this_place v_this_token v_this_value v_this_begins a_this_read v_this_clauses a_this_ahead v_this_undoMany a_this_isKept a_this_kept v_this_fewestMany v_this_fewestSets v_this_fewestSet v_this_fewestMost a_this_aside a_this_seens v_this_seenMany v_this_told v_this_read v_this_text v_this_st v_this_isKept) s.heap.size)) 0 0 := ⟨_, rfl⟩
  have hb_106 : ∀ (k_43 : Int32 → Int32 → Int32 → Int32 → Int32 → Int32 → Int32 → Int32 → Int32 → (Nat → Int32) → (Nat → Int32) → (Nat → Int32) → (Nat → Int32) → Option (Int32 × Int32 × Int32 × Int32 × Int32 × Int32 × Int32 × Int32 × Int32 × (Nat → Int32) × (Nat → Int32) × (Nat → Int32) × (Nat → Int32))), (∀ (x1 : Int32) (v_this_letters : Int32) (v_this_place : Int32) (v_this_token : Int32) (v_this_value : Int32) (v_this_begins : Int32) (v_this_clauses : Int32) (v_this_undoMany : Int32) (v_this_seenMany : Int32) (v_this_told : Nat → Int32) (v_this_read : Nat → Int32) (v_this_st : Nat → Int32) (v_this_isKept : Nat → Int32), k_43 x1 v_this_letters v_this_place v_this_token v_this_value v_this_begins v_this_clauses v_this_undoMany v_this_seenMany v_this_told v_this_read v_this_st v_this_isKept = some res → Z (w_X9_coat cyI cyZ cyW a_this a_this_told a_this_st a_this_text v_this_letters v_this_place v_this_token v_this_value v_this_begins a_this_read v_this_clauses a_this_ahead v_this_undoMany a_this_isKept a_this_kept v_this_fewestMany v_this_fewestSets v_this_fewestSet v_this_fewestMost a_this_aside a_this_seens v_this_seenMany v_this_told v_this_read v_this_text v_this_st v_this_isKept) 43 [(0, .ref a_this), (1, .int x1)] []) → ∀ (x1 : Int32) (s0 : Int32) (s1 : Int32) (v_this_letters : Int32) (v_this_place : Int32) (v_this_token : Int32) (v_this_value : Int32) (v_this_begins : Int32) (v_this_clauses : Int32) (v_this_undoMany : Int32) (v_this_seenMany : Int32) (v_this_told : Nat → Int32) (v_this_read : Nat → Int32) (v_this_st : Nat → Int32) (v_this_isKept : Nat → Int32), f_X9_coat_b106 v_this_text k_43 x1 s0 s1 v_this_letters v_this_place v_this_token v_this_value v_this_begins v_this_clauses v_this_undoMany v_this_seenMany v_this_told v_this_read v_this_st v_this_isKept = some res → Z (w_X9_coat cyI cyZ cyW a_this a_this_told a_this_st a_this_text v_this_letters v_this_place v_this_token v_this_value v_this_begins a_this_read v_this_clauses a_this_ahead v_this_undoMany a_this_isKept a_this_kept v_this_fewestMany v_this_fewestSets v_this_fewestSet v_this_fewestMost a_this_aside a_this_seens v_this_seenMany v_this_told v_this_read v_this_text v_this_st v_this_isKept) 106 [(0, .ref a_this), (1, .int x1)] [.int s0, .int s1, .ref a_this_st] := by
    subst hZ
    intro k_43 hk_43 x1 s0 s1 v_this_letters v_this_place v_this_token v_this_value v_this_begins v_this_clauses v_this_undoMany v_this_seenMany v_this_told v_this_read v_this_st v_this_isKept hf
    obtain ⟨hi7, hf⟩ := gd_some hf
    refine r_iast (ws' := (w_X9_coat cyI cyZ cyW a_this a_this_told a_this_st a_this_text v_this_letters v_this_place v_this_token v_this_value v_this_begins a_this_read v_this_clauses a_this_ahead v_this_undoMany a_this_isKept a_this_kept v_this_fewestMany v_this_fewestSets v_this_fewestSet v_this_fewestMost a_this_aside a_this_seens v_this_seenMany v_this_told v_this_read v_this_text (upd v_this_st (Int32.toNatClampNeg s1) s0) v_this_isKept)) C 4 0 rfl rfl hi7 rfl dX9_coat_106 ?_
    refine r_iinc (v := 1) (k := 1) (lv' := [(1, .int (x1 + 1)), (0, .ref a_this)]) C dX9_coat_107 rfl (by decide) (by decide) rfl ?_
    refine r_goto C 43 dX9_coat_110 (by decide) ?_
    exact ST_lv [1, 0] rfl (hk_43 (x1 + 1) v_this_letters v_this_place v_this_token v_this_value v_this_begins v_this_clauses v_this_undoMany v_this_seenMany v_this_told v_this_read (upd v_this_st (Int32.toNatClampNeg s1) s0) v_this_isKept hf)
  have hb_80 : ∀ (k_43 : Int32 → Int32 → Int32 → Int32 → Int32 → Int32 → Int32 → Int32 → Int32 → (Nat → Int32) → (Nat → Int32) → (Nat → Int32) → (Nat → Int32) → Option (Int32 × Int32 × Int32 × Int32 × Int32 × Int32 × Int32 × Int32 × Int32 × (Nat → Int32) × (Nat → Int32) × (Nat → Int32) × (Nat → Int32))), (∀ (x1 : Int32) (v_this_letters : Int32) (v_this_place : Int32) (v_this_token : Int32) (v_this_value : Int32) (v_this_begins : Int32) (v_this_clauses : Int32) (v_this_undoMany : Int32) (v_this_seenMany : Int32) (v_this_told : Nat → Int32) (v_this_read : Nat → Int32) (v_this_st : Nat → Int32) (v_this_isKept : Nat → Int32), k_43 x1 v_this_letters v_this_place v_this_token v_this_value v_this_begins v_this_clauses v_this_undoMany v_this_seenMany v_this_told v_this_read v_this_st v_this_isKept = some res → Z (w_X9_coat cyI cyZ cyW a_this a_this_told a_this_st a_this_text v_this_letters v_this_place v_this_token v_this_value v_this_begins a_this_read v_this_clauses a_this_ahead v_this_undoMany a_this_isKept a_this_kept v_this_fewestMany v_this_fewestSets v_this_fewestSet v_this_fewestMost a_this_aside a_this_seens v_this_seenMany v_this_told v_this_read v_this_text v_this_st v_this_isKept) 43 [(0, .ref a_this), (1, .int x1)] []) → ∀ (x1 : Int32) (x2 : Int32) (s0 : Int32) (s1 : Int32) (v_this_letters : Int32) (v_this_place : Int32) (v_this_token : Int32) (v_this_value : Int32) (v_this_begins : Int32) (v_this_clauses : Int32) (v_this_undoMany : Int32) (v_this_seenMany : Int32) (v_this_told : Nat → Int32) (v_this_read : Nat → Int32) (v_this_st : Nat → Int32) (v_this_isKept : Nat → Int32), f_X9_coat_b80 v_this_text k_43 x1 x2 s0 s1 v_this_letters v_this_place v_this_token v_this_value v_this_begins v_this_clauses v_this_undoMany v_this_seenMany v_this_told v_this_read v_this_st v_this_isKept = some res → Z (w_X9_coat cyI cyZ cyW a_this a_this_told a_this_st a_this_text v_this_letters v_this_place v_this_token v_this_value v_this_begins a_this_read v_this_clauses a_this_ahead v_this_undoMany a_this_isKept a_this_kept v_this_fewestMany v_this_fewestSets v_this_fewestSet v_this_fewestMost a_this_aside a_this_seens v_this_seenMany v_this_told v_this_read v_this_text v_this_st v_this_isKept) 80 [(0, .ref a_this), (1, .int x1), (2, .int x2)] [.int s0, .int s1, .ref a_this_st] := by
    subst hZ
    intro k_43 hk_43 x1 x2 s0 s1 v_this_letters v_this_place v_this_token v_this_value v_this_begins v_this_clauses v_this_undoMany v_this_seenMany v_this_told v_this_read v_this_st v_this_isKept hf
    obtain ⟨hi5, hf⟩ := gd_some hf
    refine r_iast (ws' := (w_X9_coat cyI cyZ cyW a_this a_this_told a_this_st a_this_text v_this_letters v_this_place v_this_token v_this_value v_this_begins a_this_read v_this_clauses a_this_ahead v_this_undoMany a_this_isKept a_this_kept v_this_fewestMany v_this_fewestSets v_this_fewestSet v_this_fewestMost a_this_aside a_this_seens v_this_seenMany v_this_told v_this_read v_this_text (upd v_this_st (Int32.toNatClampNeg s1) s0) v_this_isKept)) C 4 0 rfl rfl hi5 rfl dX9_coat_80 ?_
    refine r_aload_n C dX9_coat_81 rfl 0 rfl ?_
    refine r_get C in_X9_coat_X9 0 rfl rfl 1 (by decide) lk_X9_coat_4 rfl rfl dX9_coat_82 ?_
    refine r_bipush C 7 dX9_coat_85 (by decide) ?_
    refine r_iload_n C dX9_coat_87 rfl 1 rfl ?_
    refine r_iadd C dX9_coat_88 ?_
    refine r_iload_n C dX9_coat_89 rfl 2 rfl ?_
    refine r_if_eq C 105 dX9_coat_90 (by decide) hf (fun hf => ?_) (fun hf => ?_)
    · refine r_iconst C 0 dX9_coat_105 (by decide) ?_
      exact ST_lv [0, 1] rfl (hb_106 k_43 hk_43 x1 0 (7 + x1) v_this_letters v_this_place v_this_token v_this_value v_this_begins v_this_clauses v_this_undoMany v_this_seenMany v_this_told v_this_read (upd v_this_st (Int32.toNatClampNeg s1) s0) v_this_isKept hf)
    · refine r_aload_n C dX9_coat_93 rfl 0 rfl ?_
      refine r_get C in_X9_coat_X9 0 rfl rfl 0 (by decide) lk_X9_coat_2 rfl rfl dX9_coat_94 ?_
      refine r_bipush C 24 dX9_coat_97 (by decide) ?_
      refine r_iload_n C dX9_coat_99 rfl 1 rfl ?_
      refine r_iadd C dX9_coat_100 ?_
      obtain ⟨hi6, hf⟩ := gd_some hf
      refine r_iald C 1 0 rfl rfl hi6 dX9_coat_101 ?_
      refine r_goto C 106 dX9_coat_102 (by decide) ?_
      exact ST_lv [0, 1] rfl (hb_106 k_43 hk_43 x1 (v_this_told (Int32.toNatClampNeg (24 + x1))) (7 + x1) v_this_letters v_this_place v_this_token v_this_value v_this_begins v_this_clauses v_this_undoMany v_this_seenMany v_this_told v_this_read (upd v_this_st (Int32.toNatClampNeg s1) s0) v_this_isKept hf)
  have hb_64 : ∀ (k_43 : Int32 → Int32 → Int32 → Int32 → Int32 → Int32 → Int32 → Int32 → Int32 → (Nat → Int32) → (Nat → Int32) → (Nat → Int32) → (Nat → Int32) → Option (Int32 × Int32 × Int32 × Int32 × Int32 × Int32 × Int32 × Int32 × Int32 × (Nat → Int32) × (Nat → Int32) × (Nat → Int32) × (Nat → Int32))), (∀ (x1 : Int32) (v_this_letters : Int32) (v_this_place : Int32) (v_this_token : Int32) (v_this_value : Int32) (v_this_begins : Int32) (v_this_clauses : Int32) (v_this_undoMany : Int32) (v_this_seenMany : Int32) (v_this_told : Nat → Int32) (v_this_read : Nat → Int32) (v_this_st : Nat → Int32) (v_this_isKept : Nat → Int32), k_43 x1 v_this_letters v_this_place v_this_token v_this_value v_this_begins v_this_clauses v_this_undoMany v_this_seenMany v_this_told v_this_read v_this_st v_this_isKept = some res → Z (w_X9_coat cyI cyZ cyW a_this a_this_told a_this_st a_this_text v_this_letters v_this_place v_this_token v_this_value v_this_begins a_this_read v_this_clauses a_this_ahead v_this_undoMany a_this_isKept a_this_kept v_this_fewestMany v_this_fewestSets v_this_fewestSet v_this_fewestMost a_this_aside a_this_seens v_this_seenMany v_this_told v_this_read v_this_text v_this_st v_this_isKept) 43 [(0, .ref a_this), (1, .int x1)] []) → ∀ (x1 : Int32) (s0 : Int32) (v_this_letters : Int32) (v_this_place : Int32) (v_this_token : Int32) (v_this_value : Int32) (v_this_begins : Int32) (v_this_clauses : Int32) (v_this_undoMany : Int32) (v_this_seenMany : Int32) (v_this_told : Nat → Int32) (v_this_read : Nat → Int32) (v_this_st : Nat → Int32) (v_this_isKept : Nat → Int32), f_X9_coat_b64 v_this_text k_43 x1 s0 v_this_letters v_this_place v_this_token v_this_value v_this_begins v_this_clauses v_this_undoMany v_this_seenMany v_this_told v_this_read v_this_st v_this_isKept = some res → Z (w_X9_coat cyI cyZ cyW a_this a_this_told a_this_st a_this_text v_this_letters v_this_place v_this_token v_this_value v_this_begins a_this_read v_this_clauses a_this_ahead v_this_undoMany a_this_isKept a_this_kept v_this_fewestMany v_this_fewestSets v_this_fewestSet v_this_fewestMost a_this_aside a_this_seens v_this_seenMany v_this_told v_this_read v_this_text v_this_st v_this_isKept) 64 [(0, .ref a_this), (1, .int x1)] [.int s0] := by
    subst hZ
    intro k_43 hk_43 x1 s0 v_this_letters v_this_place v_this_token v_this_value v_this_begins v_this_clauses v_this_undoMany v_this_seenMany v_this_told v_this_read v_this_st v_this_isKept hf
    refine r_istore_n (lv' := [(2, .int s0), (0, .ref a_this), (1, .int x1)]) C dX9_coat_64 rfl (by decide) rfl ?_
    refine r_aload_n C dX9_coat_65 rfl 1 rfl ?_
    refine r_get C in_X9_coat_X9 0 rfl rfl 1 (by decide) lk_X9_coat_4 rfl rfl dX9_coat_66 ?_
    refine r_iload_n C dX9_coat_69 rfl 2 rfl ?_
    refine r_iload_n C dX9_coat_70 rfl 0 rfl ?_
    refine r_if_eq C 79 dX9_coat_71 (by decide) hf (fun hf => ?_) (fun hf => ?_)
    · refine r_iconst C 0 dX9_coat_79 (by decide) ?_
      exact ST_lv [1, 2, 0] rfl (hb_80 k_43 hk_43 x1 s0 0 x1 v_this_letters v_this_place v_this_token v_this_value v_this_begins v_this_clauses v_this_undoMany v_this_seenMany v_this_told v_this_read v_this_st v_this_isKept hf)
    · refine r_bipush C 20 dX9_coat_74 (by decide) ?_
      refine r_goto C 80 dX9_coat_76 (by decide) ?_
      exact ST_lv [1, 2, 0] rfl (hb_80 k_43 hk_43 x1 s0 20 x1 v_this_letters v_this_place v_this_token v_this_value v_this_begins v_this_clauses v_this_undoMany v_this_seenMany v_this_told v_this_read v_this_st v_this_isKept hf)
  have hs_43 : ∀ (k_43 : Int32 → Int32 → Int32 → Int32 → Int32 → Int32 → Int32 → Int32 → Int32 → (Nat → Int32) → (Nat → Int32) → (Nat → Int32) → (Nat → Int32) → Option (Int32 × Int32 × Int32 × Int32 × Int32 × Int32 × Int32 × Int32 × Int32 × (Nat → Int32) × (Nat → Int32) × (Nat → Int32) × (Nat → Int32))), (∀ (x1 : Int32) (v_this_letters : Int32) (v_this_place : Int32) (v_this_token : Int32) (v_this_value : Int32) (v_this_begins : Int32) (v_this_clauses : Int32) (v_this_undoMany : Int32) (v_this_seenMany : Int32) (v_this_told : Nat → Int32) (v_this_read : Nat → Int32) (v_this_st : Nat → Int32) (v_this_isKept : Nat → Int32), k_43 x1 v_this_letters v_this_place v_this_token v_this_value v_this_begins v_this_clauses v_this_undoMany v_this_seenMany v_this_told v_this_read v_this_st v_this_isKept = some res → Z (w_X9_coat cyI cyZ cyW a_this a_this_told a_this_st a_this_text v_this_letters v_this_place v_this_token v_this_value v_this_begins a_this_read v_this_clauses a_this_ahead v_this_undoMany a_this_isKept a_this_kept v_this_fewestMany v_this_fewestSets v_this_fewestSet v_this_fewestMost a_this_aside a_this_seens v_this_seenMany v_this_told v_this_read v_this_text v_this_st v_this_isKept) 43 [(0, .ref a_this), (1, .int x1)] []) → ∀ (x1 : Int32) (v_this_letters : Int32) (v_this_place : Int32) (v_this_token : Int32) (v_this_value : Int32) (v_this_begins : Int32) (v_this_clauses : Int32) (v_this_undoMany : Int32) (v_this_seenMany : Int32) (v_this_told : Nat → Int32) (v_this_read : Nat → Int32) (v_this_st : Nat → Int32) (v_this_isKept : Nat → Int32), f_X9_coat_s43 v_this_text k_43 x1 v_this_letters v_this_place v_this_token v_this_value v_this_begins v_this_clauses v_this_undoMany v_this_seenMany v_this_told v_this_read v_this_st v_this_isKept = some res → Z (w_X9_coat cyI cyZ cyW a_this a_this_told a_this_st a_this_text v_this_letters v_this_place v_this_token v_this_value v_this_begins a_this_read v_this_clauses a_this_ahead v_this_undoMany a_this_isKept a_this_kept v_this_fewestMany v_this_fewestSets v_this_fewestSet v_this_fewestMost a_this_aside a_this_seens v_this_seenMany v_this_told v_this_read v_this_text v_this_st v_this_isKept) 43 [(0, .ref a_this), (1, .int x1)] [] := by
    subst hZ
    intro k_43 hk_43 x1 v_this_letters v_this_place v_this_token v_this_value v_this_begins v_this_clauses v_this_undoMany v_this_seenMany v_this_told v_this_read v_this_st v_this_isKept hf
    refine r_iload_n C dX9_coat_43 rfl 1 rfl ?_
    refine r_bipush C 7 dX9_coat_44 (by decide) ?_
    refine r_icmp_ge C 113 dX9_coat_46 (by decide) hf (fun hf => ?_) (fun hf => ?_)
    · refine r_aload_n C dX9_coat_113 rfl 0 rfl ?_
      refine r_get C in_X9_coat_X9 0 rfl rfl 1 (by decide) lk_X9_coat_4 rfl rfl dX9_coat_114 ?_
      refine r_bipush C 14 dX9_coat_117 (by decide) ?_
      refine r_iconst C 0 dX9_coat_119 (by decide) ?_
      refine r_iast_k (ws' := (w_X9_coat cyI cyZ cyW a_this a_this_told a_this_st a_this_text v_this_letters v_this_place v_this_token v_this_value v_this_begins a_this_read v_this_clauses a_this_ahead v_this_undoMany a_this_isKept a_this_kept v_this_fewestMany v_this_fewestSets v_this_fewestSet v_this_fewestMost a_this_aside a_this_seens v_this_seenMany v_this_told v_this_read v_this_text (upd v_this_st 14 0) v_this_isKept)) C 14 4 0 rfl rfl (kk_ 14 15 (by decide) (by decide)) rfl dX9_coat_120 ?_
      refine r_aload_n C dX9_coat_121 rfl 0 rfl ?_
      refine r_iconst C 0 dX9_coat_122 (by decide) ?_
      refine r_put (ws' := (w_X9_coat cyI cyZ cyW a_this a_this_told a_this_st a_this_text v_this_letters v_this_place v_this_token v_this_value v_this_begins a_this_read v_this_clauses a_this_ahead v_this_undoMany a_this_isKept a_this_kept v_this_fewestMany v_this_fewestSets v_this_fewestSet v_this_fewestMost a_this_aside a_this_seens 0 v_this_told v_this_read v_this_text (upd v_this_st 14 0) v_this_isKept)) C in_X9_coat_X9 tyX9 tyX9_ok nmX9 0 rfl rfl 20 (by decide) lk_X9_coat_5 rfl rfl rfl rfl (Nat.le_of_ble_eq_true rfl) rfl dX9_coat_123 ?_
      refine r_aload_n C dX9_coat_126 rfl 0 rfl ?_
      refine r_iconst C 0 dX9_coat_127 (by decide) ?_
      refine r_put (ws' := (w_X9_coat cyI cyZ cyW a_this a_this_told a_this_st a_this_text v_this_letters v_this_place v_this_token v_this_value v_this_begins a_this_read v_this_clauses a_this_ahead 0 a_this_isKept a_this_kept v_this_fewestMany v_this_fewestSets v_this_fewestSet v_this_fewestMost a_this_aside a_this_seens 0 v_this_told v_this_read v_this_text (upd v_this_st 14 0) v_this_isKept)) C in_X9_coat_X9 tyX9 tyX9_ok nmX9 0 rfl rfl 11 (by decide) lk_X9_coat_6 rfl rfl rfl rfl (Nat.le_of_ble_eq_true rfl) rfl dX9_coat_128 ?_
      refine r_aload_n C dX9_coat_131 rfl 0 rfl ?_
      refine r_get C in_X9_coat_X9 0 rfl rfl 12 (by decide) lk_X9_coat_7 rfl rfl dX9_coat_132 ?_
      refine r_iconst C 0 dX9_coat_135 (by decide) ?_
      refine r_iconst C 0 dX9_coat_136 (by decide) ?_
      refine r_zast_k (ws' := (w_X9_coat cyI cyZ cyW a_this a_this_told a_this_st a_this_text v_this_letters v_this_place v_this_token v_this_value v_this_begins a_this_read v_this_clauses a_this_ahead 0 a_this_isKept a_this_kept v_this_fewestMany v_this_fewestSets v_this_fewestSet v_this_fewestMost a_this_aside a_this_seens 0 v_this_told v_this_read v_this_text (upd v_this_st 14 0) (upd v_this_isKept 0 (vp_nar .boolean 0)))) C 0 5 1 rfl rfl (kk_ 0 2 (by decide) (by decide)) rfl dX9_coat_137 ?_
      refine r_aload_n C dX9_coat_138 rfl 0 rfl ?_
      refine r_get C in_X9_coat_X9 0 rfl rfl 12 (by decide) lk_X9_coat_7 rfl rfl dX9_coat_139 ?_
      refine r_iconst C 1 dX9_coat_142 (by decide) ?_
      refine r_iconst C 0 dX9_coat_143 (by decide) ?_
      refine r_zast_k (ws' := (w_X9_coat cyI cyZ cyW a_this a_this_told a_this_st a_this_text v_this_letters v_this_place v_this_token v_this_value v_this_begins a_this_read v_this_clauses a_this_ahead 0 a_this_isKept a_this_kept v_this_fewestMany v_this_fewestSets v_this_fewestSet v_this_fewestMost a_this_aside a_this_seens 0 v_this_told v_this_read v_this_text (upd v_this_st 14 0) (upd (upd v_this_isKept 0 (vp_nar .boolean 0)) 1 (vp_nar .boolean 0)))) C 1 5 1 rfl rfl (kk_ 1 2 (by decide) (by decide)) rfl dX9_coat_144 ?_
      refine r_aload_n C dX9_coat_145 rfl 0 rfl ?_
      refine r_get C in_X9_coat_X9 0 rfl rfl 9 (by decide) lk_X9_coat_8 rfl rfl dX9_coat_146 ?_
      rw [← Option.some.inj hf]
      exact r_iret C hr hlk dX9_coat_149
    · refine r_iload_n C dX9_coat_49 rfl 1 rfl ?_
      refine r_aload_n C dX9_coat_50 rfl 0 rfl ?_
      refine r_get C in_X9_coat_X9 0 rfl rfl 0 (by decide) lk_X9_coat_2 rfl rfl dX9_coat_51 ?_
      refine r_iconst C 0 dX9_coat_54 (by decide) ?_
      refine r_iald_k C 0 1 0 rfl rfl (kk_ 0 37 (by decide) (by decide)) dX9_coat_55 ?_
      refine r_icmp_ge C 63 dX9_coat_56 (by decide) hf (fun hf => ?_) (fun hf => ?_)
      · refine r_iconst C 0 dX9_coat_63 (by decide) ?_
        exact ST_lv [0, 1] rfl (hb_64 k_43 hk_43 x1 0 v_this_letters v_this_place v_this_token v_this_value v_this_begins v_this_clauses v_this_undoMany v_this_seenMany v_this_told v_this_read v_this_st v_this_isKept hf)
      · refine r_iconst C 1 dX9_coat_59 (by decide) ?_
        refine r_goto C 64 dX9_coat_60 (by decide) ?_
        exact ST_lv [0, 1] rfl (hb_64 k_43 hk_43 x1 1 v_this_letters v_this_place v_this_token v_this_value v_this_begins v_this_clauses v_this_undoMany v_this_seenMany v_this_told v_this_read v_this_st v_this_isKept hf)
  have hb_43 : ∀ (n : Nat) (x1 : Int32) (v_this_letters : Int32) (v_this_place : Int32) (v_this_token : Int32) (v_this_value : Int32) (v_this_begins : Int32) (v_this_clauses : Int32) (v_this_undoMany : Int32) (v_this_seenMany : Int32) (v_this_told : Nat → Int32) (v_this_read : Nat → Int32) (v_this_st : Nat → Int32) (v_this_isKept : Nat → Int32), f_X9_coat_b43 v_this_text n x1 v_this_letters v_this_place v_this_token v_this_value v_this_begins v_this_clauses v_this_undoMany v_this_seenMany v_this_told v_this_read v_this_st v_this_isKept = some res → Z (w_X9_coat cyI cyZ cyW a_this a_this_told a_this_st a_this_text v_this_letters v_this_place v_this_token v_this_value v_this_begins a_this_read v_this_clauses a_this_ahead v_this_undoMany a_this_isKept a_this_kept v_this_fewestMany v_this_fewestSets v_this_fewestSet v_this_fewestMost a_this_aside a_this_seens v_this_seenMany v_this_told v_this_read v_this_text v_this_st v_this_isKept) 43 [(0, .ref a_this), (1, .int x1)] [] := by
    intro  n
    induction n with
    | zero => intro x1 v_this_letters v_this_place v_this_token v_this_value v_this_begins v_this_clauses v_this_undoMany v_this_seenMany v_this_told v_this_read v_this_st v_this_isKept hf; exact nn_ hf
    | succ n ih => exact fun x1 v_this_letters v_this_place v_this_token v_this_value v_this_begins v_this_clauses v_this_undoMany v_this_seenMany v_this_told v_this_read v_this_st v_this_isKept hf => hs_43 _ ih x1 v_this_letters v_this_place v_this_token v_this_value v_this_begins v_this_clauses v_this_undoMany v_this_seenMany v_this_told v_this_read v_this_st v_this_isKept hf
  have hs_17 : ∀ (k_17 : Int32 → Int32 → Int32 → Int32 → Int32 → Int32 → Int32 → Int32 → Int32 → (Nat → Int32) → (Nat → Int32) → (Nat → Int32) → (Nat → Int32) → Option (Int32 × Int32 × Int32 × Int32 × Int32 × Int32 × Int32 × Int32 × Int32 × (Nat → Int32) × (Nat → Int32) × (Nat → Int32) × (Nat → Int32))), (∀ (x1 : Int32) (v_this_letters : Int32) (v_this_place : Int32) (v_this_token : Int32) (v_this_value : Int32) (v_this_begins : Int32) (v_this_clauses : Int32) (v_this_undoMany : Int32) (v_this_seenMany : Int32) (v_this_told : Nat → Int32) (v_this_read : Nat → Int32) (v_this_st : Nat → Int32) (v_this_isKept : Nat → Int32), k_17 x1 v_this_letters v_this_place v_this_token v_this_value v_this_begins v_this_clauses v_this_undoMany v_this_seenMany v_this_told v_this_read v_this_st v_this_isKept = some res → Z (w_X9_coat cyI cyZ cyW a_this a_this_told a_this_st a_this_text v_this_letters v_this_place v_this_token v_this_value v_this_begins a_this_read v_this_clauses a_this_ahead v_this_undoMany a_this_isKept a_this_kept v_this_fewestMany v_this_fewestSets v_this_fewestSet v_this_fewestMost a_this_aside a_this_seens v_this_seenMany v_this_told v_this_read v_this_text v_this_st v_this_isKept) 17 [(0, .ref a_this), (1, .int x1)] []) → ∀ (x1 : Int32) (v_this_letters : Int32) (v_this_place : Int32) (v_this_token : Int32) (v_this_value : Int32) (v_this_begins : Int32) (v_this_clauses : Int32) (v_this_undoMany : Int32) (v_this_seenMany : Int32) (v_this_told : Nat → Int32) (v_this_read : Nat → Int32) (v_this_st : Nat → Int32) (v_this_isKept : Nat → Int32), f_X9_coat_s17 v_this_text k_17 x1 v_this_letters v_this_place v_this_token v_this_value v_this_begins v_this_clauses v_this_undoMany v_this_seenMany v_this_told v_this_read v_this_st v_this_isKept = some res → Z (w_X9_coat cyI cyZ cyW a_this a_this_told a_this_st a_this_text v_this_letters v_this_place v_this_token v_this_value v_this_begins a_this_read v_this_clauses a_this_ahead v_this_undoMany a_this_isKept a_this_kept v_this_fewestMany v_this_fewestSets v_this_fewestSet v_this_fewestMost a_this_aside a_this_seens v_this_seenMany v_this_told v_this_read v_this_text v_this_st v_this_isKept) 17 [(0, .ref a_this), (1, .int x1)] [] := by
    subst hZ
    intro k_17 hk_17 x1 v_this_letters v_this_place v_this_token v_this_value v_this_begins v_this_clauses v_this_undoMany v_this_seenMany v_this_told v_this_read v_this_st v_this_isKept hf
    refine r_iload_n C dX9_coat_17 rfl 1 rfl ?_
    refine r_bipush C 36 dX9_coat_18 (by decide) ?_
    refine r_icmp_gt C 41 dX9_coat_20 (by decide) hf (fun hf => ?_) (fun hf => ?_)
    · refine r_iconst C 0 dX9_coat_41 (by decide) ?_
      refine r_istore_n (lv' := [(1, .int 0), (0, .ref a_this)]) C dX9_coat_42 rfl (by decide) rfl ?_
      exact ST_lv [1, 0] rfl (hb_43 5000 0 v_this_letters v_this_place v_this_token v_this_value v_this_begins v_this_clauses v_this_undoMany v_this_seenMany v_this_told v_this_read v_this_st v_this_isKept hf)
    · refine r_aload_n C dX9_coat_23 rfl 0 rfl ?_
      refine r_get C in_X9_coat_X9 0 rfl rfl 0 (by decide) lk_X9_coat_2 rfl rfl dX9_coat_24 ?_
      refine r_iload_n C dX9_coat_27 rfl 1 rfl ?_
      refine r_aload_n C dX9_coat_28 rfl 0 rfl ?_
      refine r_get C in_X9_coat_X9 0 rfl rfl 8 (by decide) lk_X9_coat_3 rfl rfl dX9_coat_29 ?_
      refine r_iload_n C dX9_coat_32 rfl 1 rfl ?_
      obtain ⟨hi3, hf⟩ := gd_some hf
      refine r_iald C 2 0 rfl rfl hi3 dX9_coat_33 ?_
      obtain ⟨hi4, hf⟩ := gd_some hf
      refine r_iast (ws' := (w_X9_coat cyI cyZ cyW a_this a_this_told a_this_st a_this_text v_this_letters v_this_place v_this_token v_this_value v_this_begins a_this_read v_this_clauses a_this_ahead v_this_undoMany a_this_isKept a_this_kept v_this_fewestMany v_this_fewestSets v_this_fewestSet v_this_fewestMost a_this_aside a_this_seens v_this_seenMany (upd v_this_told (Int32.toNatClampNeg x1) (v_this_read (Int32.toNatClampNeg x1))) v_this_read v_this_text v_this_st v_this_isKept)) C 1 0 rfl rfl hi4 rfl dX9_coat_34 ?_
      refine r_iinc (v := 1) (k := 1) (lv' := [(1, .int (x1 + 1)), (0, .ref a_this)]) C dX9_coat_35 rfl (by decide) (by decide) rfl ?_
      refine r_goto C 17 dX9_coat_38 (by decide) ?_
      exact ST_lv [1, 0] rfl (hk_17 (x1 + 1) v_this_letters v_this_place v_this_token v_this_value v_this_begins v_this_clauses v_this_undoMany v_this_seenMany (upd v_this_told (Int32.toNatClampNeg x1) (v_this_read (Int32.toNatClampNeg x1))) v_this_read v_this_st v_this_isKept hf)
  have hb_17 : ∀ (n : Nat) (x1 : Int32) (v_this_letters : Int32) (v_this_place : Int32) (v_this_token : Int32) (v_this_value : Int32) (v_this_begins : Int32) (v_this_clauses : Int32) (v_this_undoMany : Int32) (v_this_seenMany : Int32) (v_this_told : Nat → Int32) (v_this_read : Nat → Int32) (v_this_st : Nat → Int32) (v_this_isKept : Nat → Int32), f_X9_coat_b17 v_this_text n x1 v_this_letters v_this_place v_this_token v_this_value v_this_begins v_this_clauses v_this_undoMany v_this_seenMany v_this_told v_this_read v_this_st v_this_isKept = some res → Z (w_X9_coat cyI cyZ cyW a_this a_this_told a_this_st a_this_text v_this_letters v_this_place v_this_token v_this_value v_this_begins a_this_read v_this_clauses a_this_ahead v_this_undoMany a_this_isKept a_this_kept v_this_fewestMany v_this_fewestSets v_this_fewestSet v_this_fewestMost a_this_aside a_this_seens v_this_seenMany v_this_told v_this_read v_this_text v_this_st v_this_isKept) 17 [(0, .ref a_this), (1, .int x1)] [] := by
    intro  n
    induction n with
    | zero => intro x1 v_this_letters v_this_place v_this_token v_this_value v_this_begins v_this_clauses v_this_undoMany v_this_seenMany v_this_told v_this_read v_this_st v_this_isKept hf; exact nn_ hf
    | succ n ih => exact fun x1 v_this_letters v_this_place v_this_token v_this_value v_this_begins v_this_clauses v_this_undoMany v_this_seenMany v_this_told v_this_read v_this_st v_this_isKept hf => hs_17 _ ih x1 v_this_letters v_this_place v_this_token v_this_value v_this_begins v_this_clauses v_this_undoMany v_this_seenMany v_this_told v_this_read v_this_st v_this_isKept hf
  subst hZ
  refine r_aload_n C dX9_coat_0 rfl 0 rfl ?_
  obtain ⟨y1_0, y1_1, y1_2, y1_3, y1_4, y1_5, y1_6, hy2, hf⟩ := bd7_some hf
  refine r_callV_i (As := []) (rest := []) (ws' := (w_X9_coat cyI cyZ cyW a_this a_this_told a_this_st a_this_text v_this_letters y1_1 y1_2 y1_3 y1_4 a_this_read y1_5 a_this_ahead v_this_undoMany a_this_isKept a_this_kept v_this_fewestMany v_this_fewestSets v_this_fewestSet v_this_fewestMost a_this_aside a_this_seens v_this_seenMany v_this_told y1_6 v_this_text v_this_st v_this_isKept)) C (c_X9_readText l D cyI cyZ cyW a_this a_this_told a_this_st a_this_text v_this_letters v_this_place v_this_token v_this_value v_this_begins a_this_read v_this_clauses a_this_ahead v_this_undoMany a_this_isKept a_this_kept v_this_fewestMany v_this_fewestSets v_this_fewestSet v_this_fewestMost a_this_aside a_this_seens v_this_seenMany v_this_told v_this_read v_this_text (y1_0, y1_1, y1_2, y1_3, y1_4, y1_5, y1_6) hy2) gX9_coat_X9_readText rfl hyV_X9_readText ⟨rfl, rfl, (Nat.le_of_ble_eq_true rfl), (Nat.le_of_ble_eq_true rfl)⟩ rfl 0 rfl rfl [0, 1, 2, 3] rfl rfl rfl rfl rfl (Nat.le_of_ble_eq_true rfl) ⟨Nat.zero_le _, Nat.zero_le _⟩ dX9_coat_1 ?_
  refine r_if_ne C 10 dX9_coat_4 (by decide) hf (fun hf => ?_) (fun hf => ?_)
  · refine r_aload_n C dX9_coat_10 rfl 0 rfl ?_
    refine r_iconst C 0 dX9_coat_11 (by decide) ?_
    refine r_put (ws' := (w_X9_coat cyI cyZ cyW a_this a_this_told a_this_st a_this_text 0 y1_1 y1_2 y1_3 y1_4 a_this_read y1_5 a_this_ahead v_this_undoMany a_this_isKept a_this_kept v_this_fewestMany v_this_fewestSets v_this_fewestSet v_this_fewestMost a_this_aside a_this_seens v_this_seenMany v_this_told y1_6 v_this_text v_this_st v_this_isKept)) C in_X9_coat_X9 tyX9 tyX9_ok nmX9 0 rfl rfl 3 (by decide) lk_X9_coat_1 rfl rfl rfl rfl (Nat.le_of_ble_eq_true rfl) rfl dX9_coat_12 ?_
    refine r_iconst C 0 dX9_coat_15 (by decide) ?_
    refine r_istore_n (lv' := [(1, .int 0), (0, .ref a_this)]) C dX9_coat_16 rfl (by decide) rfl ?_
    exact ST_lv [1, 0] rfl (hb_17 5000 0 0 y1_1 y1_2 y1_3 y1_4 y1_5 v_this_undoMany v_this_seenMany v_this_told y1_6 v_this_st v_this_isKept hf)
  · refine r_bipush C (-4) dX9_coat_7 (by decide) ?_
    rw [← Option.some.inj hf]
    exact r_iret C hr hlk dX9_coat_9
