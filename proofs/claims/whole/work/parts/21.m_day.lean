theorem lk_X9_isFrozen_1 : Cond.fieldLink RX9 13 "ParishCoatModel" "st" "[I" ∈ wsX9_isFrozen := List.mem_of_getElem? (i := 1) rfl
theorem in_X9_isFrozen_X9 : ∀ w ∈ u_ws RX9 TX9 21, w ∈ wsX9_isFrozen := fun _ h => List.mem_cons_of_mem _ (List.mem_append_right _ h)
def f_X9_isFrozen (v_this_st : Nat → Int32) (x1 : Int32) : Option (Int32) := gd_ x1 15 (if (v_this_st (Int32.toNatClampNeg x1)) = 0 then (some (1)) else (some (0)))
def w_X9_isFrozen (cyI cyZ cyW : ClassId) (a_this : Nat) (a_this_told : Nat) (a_this_st : Nat) (a_this_text : Nat) (v_this_letters : Int32) (v_this_place : Int32) (v_this_token : Int32) (v_this_value : Int32) (v_this_begins : Int32) (a_this_read : Nat) (v_this_clauses : Int32) (a_this_ahead : Nat) (v_this_undoMany : Int32) (a_this_isKept : Nat) (a_this_kept : Nat) (v_this_fewestMany : Int32) (v_this_fewestSets : Int32) (v_this_fewestSet : Int32) (v_this_fewestMost : Int32) (a_this_aside : Nat) (a_this_seens : Nat) (v_this_seenMany : Int32) (v_this_st : Nat → Int32) : va_W := [(a_this, .inr (9, [.ref a_this_told, .ref a_this_st, .ref a_this_text, .int v_this_letters, .int v_this_place, .int v_this_token, .int v_this_value, .int v_this_begins, .ref a_this_read, .int v_this_clauses, .ref a_this_ahead, .int v_this_undoMany, .ref a_this_isKept, .ref a_this_kept, .int v_this_fewestMany, .int v_this_fewestSets, .int v_this_fewestSet, .int v_this_fewestMost, .ref a_this_aside, .ref a_this_seens, .int v_this_seenMany])), (a_this_st, .inl (cyI, 15, .inl v_this_st))]
set_option maxHeartbeats 4000000 in
set_option maxRecDepth 100000 in
theorem c_X9_isFrozen (l : Launch) (D : va_G) (cyI cyZ cyW : ClassId) (a_this : Nat) (a_this_told : Nat) (a_this_st : Nat) (a_this_text : Nat) (v_this_letters : Int32) (v_this_place : Int32) (v_this_token : Int32) (v_this_value : Int32) (v_this_begins : Int32) (a_this_read : Nat) (v_this_clauses : Int32) (a_this_ahead : Nat) (v_this_undoMany : Int32) (a_this_isKept : Nat) (a_this_kept : Nat) (v_this_fewestMany : Int32) (v_this_fewestSets : Int32) (v_this_fewestSet : Int32) (v_this_fewestMost : Int32) (a_this_aside : Nat) (a_this_seens : Nat) (v_this_seenMany : Int32) (v_this_st : Nat → Int32) (x1 : Int32) (res : Int32) (hf : f_X9_isFrozen v_this_st x1 = some res) : ∀ sz, Met l yX9_isFrozen wsX9_isFrozen { frames := 0, cells := 0, slots := 0, locals := 0 } (PCx D (tyG cyI cyZ cyW) [.ref a_this, .int x1] (w_X9_isFrozen cyI cyZ cyW a_this a_this_told a_this_st a_this_text v_this_letters v_this_place v_this_token v_this_value v_this_begins a_this_read v_this_clauses a_this_ahead v_this_undoMany a_this_isKept a_this_kept v_this_fewestMany v_this_fewestSets v_this_fewestSet v_this_fewestMost a_this_aside a_this_seens v_this_seenMany v_this_st) sz) (QI D (tyG cyI cyZ cyW) (w_X9_isFrozen cyI cyZ cyW a_this a_this_told a_this_st a_this_text v_this_letters v_this_place v_this_token v_this_value v_this_begins a_this_read v_this_clauses a_this_ahead v_this_undoMany a_this_isKept a_this_kept v_this_fewestMany v_this_fewestSets v_this_fewestSet v_this_fewestMost a_this_aside a_this_seens v_this_seenMany v_this_st) sz res (w_X9_isFrozen cyI cyZ cyW a_this a_this_told a_this_st a_this_text v_this_letters v_this_place v_this_token v_this_value v_this_begins a_this_read v_this_clauses a_this_ahead v_this_undoMany a_this_isKept a_this_kept v_this_fewestMany v_this_fewestSets v_this_fewestSet v_this_fewestMost a_this_aside a_this_seens v_this_seenMany v_this_st)) 0 0 (va_A (w_X9_isFrozen cyI cyZ cyW a_this a_this_told a_this_st a_this_text v_this_letters v_this_place v_this_token v_this_value v_this_begins a_this_read v_this_clauses a_this_ahead v_this_undoMany a_this_isKept a_this_kept v_this_fewestMany v_this_fewestSets v_this_fewestSet v_this_fewestMost a_this_aside a_this_seens v_this_seenMany v_this_st) sz) := by
  intro sz
  refine met_of (cc := cX9_isFrozen) (maxL := 2) (ret := (some .boolean)) (lv0 := [(0, .ref a_this), (1, .int x1)]) (by decide) rfl ⟨(Nat.le_of_ble_eq_true rfl), rfl⟩ ?_
  intro p e s m below meth c C hr hlk hnm hsz
  subst hsz
  have C : CX p s m _ c 2 cX9_isFrozen RX9 wsX9_isFrozen D (tyG cyI cyZ cyW) _ := C
  refine r_aload_n C dX9_isFrozen_0 rfl 0 rfl ?_
  refine r_get C in_X9_isFrozen_X9 0 rfl rfl 1 (by decide) lk_X9_isFrozen_1 rfl rfl dX9_isFrozen_1 ?_
  refine r_iload_n C dX9_isFrozen_4 rfl 1 rfl ?_
  obtain ⟨hi1, hf⟩ := gd_some hf
  refine r_iald C 1 0 rfl rfl hi1 dX9_isFrozen_5 ?_
  refine r_if_ne C 13 dX9_isFrozen_6 (by decide) hf (fun hf => ?_) (fun hf => ?_)
  · refine r_iconst C 0 dX9_isFrozen_13 (by decide) ?_
    rw [← Option.some.inj hf]
    exact r_zret (r := 0) C hr hlk rfl dX9_isFrozen_14
  · refine r_iconst C 1 dX9_isFrozen_9 (by decide) ?_
    refine r_goto C 14 dX9_isFrozen_10 (by decide) ?_
    rw [← Option.some.inj hf]
    exact r_zret (r := 1) C hr hlk rfl dX9_isFrozen_14

theorem lk_X9_frozen_1 : Cond.fieldLink RX9 7 "ParishCoatModel" "told" "[I" ∈ wsX9_frozen := List.mem_of_getElem? (i := 1) rfl
theorem in_X9_frozen_X9 : ∀ w ∈ u_ws RX9 TX9 21, w ∈ wsX9_frozen := fun _ h => List.mem_cons_of_mem _ (List.mem_append_right _ h)
theorem hyV_X9_isFrozen : yX9_isFrozen.cls = RX9 ∧ yX9_isFrozen.cls ≠ "java/lang/invoke/MethodHandle" ∧ yX9_isFrozen.cls ≠ "java/lang/invoke/VarHandle" ∧ (parseMethodDescriptor yX9_isFrozen.desc).map (fun d => d.parameters.length) = some 1 := by decide +kernel
theorem hyS_X9_isFrozen : yX9_isFrozen.cls ≠ "java/lang/invoke/MethodHandle" ∧ yX9_isFrozen.cls ≠ "java/lang/invoke/VarHandle" ∧ (parseMethodDescriptor yX9_isFrozen.desc).map (fun d => d.parameters.length) = some 1 := by decide +kernel
def f_X9_frozen_b30 (v_this_told : Nat → Int32) (v_this_st : Nat → Int32) (k_4 : Int32 → Int32 → Option (Int32)) (x2 : Int32) (s0 : Int32) (s1 : Int32) : Option (Int32) := k_4 (s1 ||| s0) (x2 + 1)
def f_X9_frozen_s4 (v_this_told : Nat → Int32) (v_this_st : Nat → Int32) (k_4 : Int32 → Int32 → Option (Int32)) (x1 : Int32) (x2 : Int32) : Option (Int32) := if (v_this_told 0) ≤ x2 then (some (x1)) else ((f_X9_isFrozen v_this_st x2).bind fun y1 => if y1 = 0 then (f_X9_frozen_b30 v_this_told v_this_st k_4 x2 0 x1) else (f_X9_frozen_b30 v_this_told v_this_st k_4 x2 ((1 : Int32) <<< (x2 &&& 31)) x1))
def f_X9_frozen_b4 (v_this_told : Nat → Int32) (v_this_st : Nat → Int32) (n : Nat) : Int32 → Int32 → Option (Int32) := it_ (f_X9_frozen_s4 v_this_told v_this_st ) (fun _ _ => none) n
def f_X9_frozen (v_this_told : Nat → Int32) (v_this_st : Nat → Int32) : Option (Int32) := f_X9_frozen_b4 v_this_told v_this_st 5000 0 0
def w_X9_frozen (cyI cyZ cyW : ClassId) (a_this : Nat) (a_this_told : Nat) (a_this_st : Nat) (a_this_text : Nat) (v_this_letters : Int32) (v_this_place : Int32) (v_this_token : Int32) (v_this_value : Int32) (v_this_begins : Int32) (a_this_read : Nat) (v_this_clauses : Int32) (a_this_ahead : Nat) (v_this_undoMany : Int32) (a_this_isKept : Nat) (a_this_kept : Nat) (v_this_fewestMany : Int32) (v_this_fewestSets : Int32) (v_this_fewestSet : Int32) (v_this_fewestMost : Int32) (a_this_aside : Nat) (a_this_seens : Nat) (v_this_seenMany : Int32) (v_this_told : Nat → Int32) (v_this_st : Nat → Int32) : va_W := [(a_this, .inr (9, [.ref a_this_told, .ref a_this_st, .ref a_this_text, .int v_this_letters, .int v_this_place, .int v_this_token, .int v_this_value, .int v_this_begins, .ref a_this_read, .int v_this_clauses, .ref a_this_ahead, .int v_this_undoMany, .ref a_this_isKept, .ref a_this_kept, .int v_this_fewestMany, .int v_this_fewestSets, .int v_this_fewestSet, .int v_this_fewestMost, .ref a_this_aside, .ref a_this_seens, .int v_this_seenMany])), (a_this_told, .inl (cyI, 37, .inl v_this_told)), (a_this_st, .inl (cyI, 15, .inl v_this_st))]
set_option maxHeartbeats 4000000 in
set_option maxRecDepth 100000 in
theorem c_X9_frozen (l : Launch) (D : va_G) (cyI cyZ cyW : ClassId) (a_this : Nat) (a_this_told : Nat) (a_this_st : Nat) (a_this_text : Nat) (v_this_letters : Int32) (v_this_place : Int32) (v_this_token : Int32) (v_this_value : Int32) (v_this_begins : Int32) (a_this_read : Nat) (v_this_clauses : Int32) (a_this_ahead : Nat) (v_this_undoMany : Int32) (a_this_isKept : Nat) (a_this_kept : Nat) (v_this_fewestMany : Int32) (v_this_fewestSets : Int32) (v_this_fewestSet : Int32) (v_this_fewestMost : Int32) (a_this_aside : Nat) (a_this_seens : Nat) (v_this_seenMany : Int32) (v_this_told : Nat → Int32) (v_this_st : Nat → Int32) (res : Int32) (hf : f_X9_frozen v_this_told v_this_st = some res) : ∀ sz, Met l yX9_frozen wsX9_frozen { frames := 1, cells := 0, slots := 0, locals := 21 } (PCx D (tyG cyI cyZ cyW) [.ref a_this] (w_X9_frozen cyI cyZ cyW a_this a_this_told a_this_st a_this_text v_this_letters v_this_place v_this_token v_this_value v_this_begins a_this_read v_this_clauses a_this_ahead v_this_undoMany a_this_isKept a_this_kept v_this_fewestMany v_this_fewestSets v_this_fewestSet v_this_fewestMost a_this_aside a_this_seens v_this_seenMany v_this_told v_this_st) sz) (QI D (tyG cyI cyZ cyW) (w_X9_frozen cyI cyZ cyW a_this a_this_told a_this_st a_this_text v_this_letters v_this_place v_this_token v_this_value v_this_begins a_this_read v_this_clauses a_this_ahead v_this_undoMany a_this_isKept a_this_kept v_this_fewestMany v_this_fewestSets v_this_fewestSet v_this_fewestMost a_this_aside a_this_seens v_this_seenMany v_this_told v_this_st) sz res (w_X9_frozen cyI cyZ cyW a_this a_this_told a_this_st a_this_text v_this_letters v_this_place v_this_token v_this_value v_this_begins a_this_read v_this_clauses a_this_ahead v_this_undoMany a_this_isKept a_this_kept v_this_fewestMany v_this_fewestSets v_this_fewestSet v_this_fewestMost a_this_aside a_this_seens v_this_seenMany v_this_told v_this_st)) 0 0 (va_A (w_X9_frozen cyI cyZ cyW a_this a_this_told a_this_st a_this_text v_this_letters v_this_place v_this_token v_this_value v_this_begins a_this_read v_this_clauses a_this_ahead v_this_undoMany a_this_isKept a_this_kept v_this_fewestMany v_this_fewestSets v_this_fewestSet v_this_fewestMost a_this_aside a_this_seens v_this_seenMany v_this_told v_this_st) sz) := by
  intro sz
  refine met_of (cc := cX9_frozen) (maxL := 3) (ret := (some .int)) (lv0 := [(0, .ref a_this)]) (by decide) rfl ⟨(Nat.le_of_ble_eq_true rfl), rfl⟩ ?_
  intro p e s m below meth c C hr hlk hnm hsz
  subst hsz
  have C : CX p s m _ c 3 cX9_frozen RX9 wsX9_frozen D (tyG cyI cyZ cyW) _ := C
  obtain ⟨Z, hZ⟩ : ∃ Z : va_W → Nat → LV → List Value → Prop, Z = ST p l e { frames := 1, cells := 0, slots := 0, locals := 21 } s m [.ref a_this].toArray below meth c 3 D (va_A (w_X9_frozen cyI cyZ cyW a_this a_this_told a_this_st a_this_text v_this_letters v_this_place v_this_token v_this_value v_this_begins a_this_read v_this_clauses a_this_ahead v_this_undoMany a_this_isKept a_this_kept v_this_fewestMany v_this_fewestSets v_this_fewestSet v_this_fewestMost a_this_aside a_this_seens v_this_seenMany v_this_told v_this_st) s.heap.size) (MQ below (QI D (tyG cyI cyZ cyW) (w_X9_frozen cyI cyZ cyW a_this a_this_told a_this_st a_this_text v_this_letters v_this_place v_this_token v_this_value v_this_begins a_this_read v_this_clauses a_this_ahead v_this_undoMany a_this_isKept a_this_kept v_this_fewestMany v_this_fewestSets v_this_fewestSet v_this_fewestMost a_this_aside a_this_seens v_this_seenMany v_this_told v_this_st) s.heap.size res (w_X9_frozen cyI cyZ cyW a_this a_this_told a_this_st a_this_text v_this_letters v_this_place v_this_token v_this_value v_this_begins a_this_read v_this_clauses a_this_ahead v_this_undoMany a_this_isKept a_this_kept v_this_fewestMany v_this_fewestSets v_this_fewestSet v_this_fewestMost a_this_aside a_this_seens v_this_seenMany v_this_told v_this_st)) [.ref a_this].toArray s 0 0 (va_A (w_X9_frozen cyI cyZ cyW a_this a_this_told a_this_st a_this_text v_this_letters v_this_place v_this_token v_this_value v_this_begins a_this_read v_this_clauses a_this_ahead v_this_undoMany a_this_isKept a_this_kept v_this_fewestMany v_this_fewestSets v_this_fewestSet v_this_fewestMost a_this_aside a_this_seens v_this_seenMany v_this_told v_this_st) s.heap.size)) 0 0 := ⟨_, rfl⟩
  have hb_30 : ∀ (k_4 : Int32 → Int32 → Option (Int32)), (∀ (x1 : Int32) (x2 : Int32), k_4 x1 x2 = some res → Z (w_X9_frozen cyI cyZ cyW a_this a_this_told a_this_st a_this_text v_this_letters v_this_place v_this_token v_this_value v_this_begins a_this_read v_this_clauses a_this_ahead v_this_undoMany a_this_isKept a_this_kept v_this_fewestMany v_this_fewestSets v_this_fewestSet v_this_fewestMost a_this_aside a_this_seens v_this_seenMany v_this_told v_this_st) 4 [(0, .ref a_this), (1, .int x1), (2, .int x2)] []) → ∀ (x2 : Int32) (s0 : Int32) (s1 : Int32), f_X9_frozen_b30 v_this_told v_this_st k_4 x2 s0 s1 = some res → Z (w_X9_frozen cyI cyZ cyW a_this a_this_told a_this_st a_this_text v_this_letters v_this_place v_this_token v_this_value v_this_begins a_this_read v_this_clauses a_this_ahead v_this_undoMany a_this_isKept a_this_kept v_this_fewestMany v_this_fewestSets v_this_fewestSet v_this_fewestMost a_this_aside a_this_seens v_this_seenMany v_this_told v_this_st) 30 [(0, .ref a_this), (2, .int x2)] [.int s0, .int s1] := by
    subst hZ
    intro k_4 hk_4 x2 s0 s1 hf
    refine r_ior C dX9_frozen_30 ?_
    refine r_istore_n (lv' := [(1, .int (s1 ||| s0)), (0, .ref a_this), (2, .int x2)]) C dX9_frozen_31 rfl (by decide) rfl ?_
    refine r_iinc (v := 1) (k := 2) (lv' := [(2, .int (x2 + 1)), (1, .int (s1 ||| s0)), (0, .ref a_this)]) C dX9_frozen_32 rfl (by decide) (by decide) rfl ?_
    refine r_goto C 4 dX9_frozen_35 (by decide) ?_
    exact ST_lv [2, 1, 0] rfl (hk_4 (s1 ||| s0) (x2 + 1) hf)
  have hs_4 : ∀ (k_4 : Int32 → Int32 → Option (Int32)), (∀ (x1 : Int32) (x2 : Int32), k_4 x1 x2 = some res → Z (w_X9_frozen cyI cyZ cyW a_this a_this_told a_this_st a_this_text v_this_letters v_this_place v_this_token v_this_value v_this_begins a_this_read v_this_clauses a_this_ahead v_this_undoMany a_this_isKept a_this_kept v_this_fewestMany v_this_fewestSets v_this_fewestSet v_this_fewestMost a_this_aside a_this_seens v_this_seenMany v_this_told v_this_st) 4 [(0, .ref a_this), (1, .int x1), (2, .int x2)] []) → ∀ (x1 : Int32) (x2 : Int32), f_X9_frozen_s4 v_this_told v_this_st k_4 x1 x2 = some res → Z (w_X9_frozen cyI cyZ cyW a_this a_this_told a_this_st a_this_text v_this_letters v_this_place v_this_token v_this_value v_this_begins a_this_read v_this_clauses a_this_ahead v_this_undoMany a_this_isKept a_this_kept v_this_fewestMany v_this_fewestSets v_this_fewestSet v_this_fewestMost a_this_aside a_this_seens v_this_seenMany v_this_told v_this_st) 4 [(0, .ref a_this), (1, .int x1), (2, .int x2)] [] := by
    subst hZ
    intro k_4 hk_4 x1 x2 hf
    refine r_iload_n C dX9_frozen_4 rfl 2 rfl ?_
    refine r_aload_n C dX9_frozen_5 rfl 0 rfl ?_
    refine r_get C in_X9_frozen_X9 0 rfl rfl 0 (by decide) lk_X9_frozen_1 rfl rfl dX9_frozen_6 ?_
    refine r_iconst C 0 dX9_frozen_9 (by decide) ?_
    refine r_iald_k C 0 1 0 rfl rfl (kk_ 0 37 (by decide) (by decide)) dX9_frozen_10 ?_
    refine r_icmp_ge C 38 dX9_frozen_11 (by decide) hf (fun hf => ?_) (fun hf => ?_)
    · refine r_iload_n C dX9_frozen_38 rfl 1 rfl ?_
      rw [← Option.some.inj hf]
      exact r_iret C hr hlk dX9_frozen_39
    · refine r_iload_n C dX9_frozen_14 rfl 1 rfl ?_
      refine r_aload_n C dX9_frozen_15 rfl 0 rfl ?_
      refine r_iload_n C dX9_frozen_16 rfl 2 rfl ?_
      obtain ⟨y1, hy2, hf⟩ := bd_some hf
      refine r_roV_i (As := [.int x2]) (rest := [.int x1]) C (c_X9_isFrozen l D cyI cyZ cyW a_this a_this_told a_this_st a_this_text v_this_letters v_this_place v_this_token v_this_value v_this_begins a_this_read v_this_clauses a_this_ahead v_this_undoMany a_this_isKept a_this_kept v_this_fewestMany v_this_fewestSets v_this_fewestSet v_this_fewestMost a_this_aside a_this_seens v_this_seenMany v_this_st x2 y1 hy2) gX9_frozen_X9_isFrozen rfl hyV_X9_isFrozen ⟨rfl, rfl, (Nat.le_of_ble_eq_true rfl), (Nat.le_of_ble_eq_true rfl)⟩ rfl 0 rfl rfl [0, 2] rfl rfl rfl (Nat.le_of_ble_eq_true rfl) ⟨Nat.zero_le _, Nat.zero_le _⟩ dX9_frozen_17 ?_
      refine r_if_eq C 29 dX9_frozen_20 (by decide) hf (fun hf => ?_) (fun hf => ?_)
      · refine r_iconst C 0 dX9_frozen_29 (by decide) ?_
        exact ST_lv [0, 2] rfl (hb_30 k_4 hk_4 x2 0 x1 hf)
      · refine r_iconst C 1 dX9_frozen_23 (by decide) ?_
        refine r_iload_n C dX9_frozen_24 rfl 2 rfl ?_
        refine r_ishl C dX9_frozen_25 ?_
        refine r_goto C 30 dX9_frozen_26 (by decide) ?_
        exact ST_lv [0, 2] rfl (hb_30 k_4 hk_4 x2 ((1 : Int32) <<< (x2 &&& 31)) x1 hf)
  have hb_4 : ∀ (n : Nat) (x1 : Int32) (x2 : Int32), f_X9_frozen_b4 v_this_told v_this_st n x1 x2 = some res → Z (w_X9_frozen cyI cyZ cyW a_this a_this_told a_this_st a_this_text v_this_letters v_this_place v_this_token v_this_value v_this_begins a_this_read v_this_clauses a_this_ahead v_this_undoMany a_this_isKept a_this_kept v_this_fewestMany v_this_fewestSets v_this_fewestSet v_this_fewestMost a_this_aside a_this_seens v_this_seenMany v_this_told v_this_st) 4 [(0, .ref a_this), (1, .int x1), (2, .int x2)] [] := by
    intro  n
    induction n with
    | zero => intro x1 x2 hf; exact nn_ hf
    | succ n ih => exact fun x1 x2 hf => hs_4 _ ih x1 x2 hf
  subst hZ
  refine r_iconst C 0 dX9_frozen_0 (by decide) ?_
  refine r_istore_n (lv' := [(1, .int 0), (0, .ref a_this)]) C dX9_frozen_1 rfl (by decide) rfl ?_
  refine r_iconst C 0 dX9_frozen_2 (by decide) ?_
  refine r_istore_n (lv' := [(2, .int 0), (1, .int 0), (0, .ref a_this)]) C dX9_frozen_3 rfl (by decide) rfl ?_
  exact ST_lv [2, 1, 0] rfl (hb_4 5000 0 0 hf)

theorem lk_X9_alive_1 : Cond.fieldLink RX9 7 "ParishCoatModel" "told" "[I" ∈ wsX9_alive := List.mem_of_getElem? (i := 1) rfl
theorem in_X9_alive_X9 : ∀ w ∈ u_ws RX9 TX9 21, w ∈ wsX9_alive := fun _ h => List.mem_cons_of_mem _ (List.mem_append_right _ h)
theorem hyV_X9_frozen : yX9_frozen.cls = RX9 ∧ yX9_frozen.cls ≠ "java/lang/invoke/MethodHandle" ∧ yX9_frozen.cls ≠ "java/lang/invoke/VarHandle" ∧ (parseMethodDescriptor yX9_frozen.desc).map (fun d => d.parameters.length) = some 0 := by decide +kernel
theorem hyS_X9_frozen : yX9_frozen.cls ≠ "java/lang/invoke/MethodHandle" ∧ yX9_frozen.cls ≠ "java/lang/invoke/VarHandle" ∧ (parseMethodDescriptor yX9_frozen.desc).map (fun d => d.parameters.length) = some 0 := by decide +kernel
def f_X9_alive (v_this_told : Nat → Int32) (v_this_st : Nat → Int32) : Option (Int32) := (f_X9_frozen v_this_told v_this_st).bind fun y1 => some (((((1 : Int32) <<< ((v_this_told 0) &&& 31)) - 1) &&& (y1 ^^^ (-1))))
def w_X9_alive (cyI cyZ cyW : ClassId) (a_this : Nat) (a_this_told : Nat) (a_this_st : Nat) (a_this_text : Nat) (v_this_letters : Int32) (v_this_place : Int32) (v_this_token : Int32) (v_this_value : Int32) (v_this_begins : Int32) (a_this_read : Nat) (v_this_clauses : Int32) (a_this_ahead : Nat) (v_this_undoMany : Int32) (a_this_isKept : Nat) (a_this_kept : Nat) (v_this_fewestMany : Int32) (v_this_fewestSets : Int32) (v_this_fewestSet : Int32) (v_this_fewestMost : Int32) (a_this_aside : Nat) (a_this_seens : Nat) (v_this_seenMany : Int32) (v_this_told : Nat → Int32) (v_this_st : Nat → Int32) : va_W := [(a_this, .inr (9, [.ref a_this_told, .ref a_this_st, .ref a_this_text, .int v_this_letters, .int v_this_place, .int v_this_token, .int v_this_value, .int v_this_begins, .ref a_this_read, .int v_this_clauses, .ref a_this_ahead, .int v_this_undoMany, .ref a_this_isKept, .ref a_this_kept, .int v_this_fewestMany, .int v_this_fewestSets, .int v_this_fewestSet, .int v_this_fewestMost, .ref a_this_aside, .ref a_this_seens, .int v_this_seenMany])), (a_this_told, .inl (cyI, 37, .inl v_this_told)), (a_this_st, .inl (cyI, 15, .inl v_this_st))]
set_option maxHeartbeats 4000000 in
set_option maxRecDepth 100000 in
theorem c_X9_alive (l : Launch) (D : va_G) (cyI cyZ cyW : ClassId) (a_this : Nat) (a_this_told : Nat) (a_this_st : Nat) (a_this_text : Nat) (v_this_letters : Int32) (v_this_place : Int32) (v_this_token : Int32) (v_this_value : Int32) (v_this_begins : Int32) (a_this_read : Nat) (v_this_clauses : Int32) (a_this_ahead : Nat) (v_this_undoMany : Int32) (a_this_isKept : Nat) (a_this_kept : Nat) (v_this_fewestMany : Int32) (v_this_fewestSets : Int32) (v_this_fewestSet : Int32) (v_this_fewestMost : Int32) (a_this_aside : Nat) (a_this_seens : Nat) (v_this_seenMany : Int32) (v_this_told : Nat → Int32) (v_this_st : Nat → Int32) (res : Int32) (hf : f_X9_alive v_this_told v_this_st = some res) : ∀ sz, Met l yX9_alive wsX9_alive { frames := 2, cells := 0, slots := 0, locals := 43 } (PCx D (tyG cyI cyZ cyW) [.ref a_this] (w_X9_alive cyI cyZ cyW a_this a_this_told a_this_st a_this_text v_this_letters v_this_place v_this_token v_this_value v_this_begins a_this_read v_this_clauses a_this_ahead v_this_undoMany a_this_isKept a_this_kept v_this_fewestMany v_this_fewestSets v_this_fewestSet v_this_fewestMost a_this_aside a_this_seens v_this_seenMany v_this_told v_this_st) sz) (QI D (tyG cyI cyZ cyW) (w_X9_alive cyI cyZ cyW a_this a_this_told a_this_st a_this_text v_this_letters v_this_place v_this_token v_this_value v_this_begins a_this_read v_this_clauses a_this_ahead v_this_undoMany a_this_isKept a_this_kept v_this_fewestMany v_this_fewestSets v_this_fewestSet v_this_fewestMost a_this_aside a_this_seens v_this_seenMany v_this_told v_this_st) sz res (w_X9_alive cyI cyZ cyW a_this a_this_told a_this_st a_this_text v_this_letters v_this_place v_this_token v_this_value v_this_begins a_this_read v_this_clauses a_this_ahead v_this_undoMany a_this_isKept a_this_kept v_this_fewestMany v_this_fewestSets v_this_fewestSet v_this_fewestMost a_this_aside a_this_seens v_this_seenMany v_this_told v_this_st)) 0 0 (va_A (w_X9_alive cyI cyZ cyW a_this a_this_told a_this_st a_this_text v_this_letters v_this_place v_this_token v_this_value v_this_begins a_this_read v_this_clauses a_this_ahead v_this_undoMany a_this_isKept a_this_kept v_this_fewestMany v_this_fewestSets v_this_fewestSet v_this_fewestMost a_this_aside a_this_seens v_this_seenMany v_this_told v_this_st) sz) := by
  intro sz
  refine met_of (cc := cX9_alive) (maxL := 1) (ret := (some .int)) (lv0 := [(0, .ref a_this)]) (by decide) rfl ⟨(Nat.le_of_ble_eq_true rfl), rfl⟩ ?_
  intro p e s m below meth c C hr hlk hnm hsz
  subst hsz
  have C : CX p s m _ c 1 cX9_alive RX9 wsX9_alive D (tyG cyI cyZ cyW) _ := C
  refine r_iconst C 1 dX9_alive_0 (by decide) ?_
  refine r_aload_n C dX9_alive_1 rfl 0 rfl ?_
  refine r_get C in_X9_alive_X9 0 rfl rfl 0 (by decide) lk_X9_alive_1 rfl rfl dX9_alive_2 ?_
  refine r_iconst C 0 dX9_alive_5 (by decide) ?_
  refine r_iald_k C 0 1 0 rfl rfl (kk_ 0 37 (by decide) (by decide)) dX9_alive_6 ?_
  refine r_ishl C dX9_alive_7 ?_
  refine r_iconst C 1 dX9_alive_8 (by decide) ?_
  refine r_isub C dX9_alive_9 ?_
  refine r_aload_n C dX9_alive_10 rfl 0 rfl ?_
  obtain ⟨y1, hy2, hf⟩ := bd_some hf
  refine r_roV_i (As := []) (rest := [.int (((1 : Int32) <<< ((v_this_told 0) &&& 31)) - 1)]) C (c_X9_frozen l D cyI cyZ cyW a_this a_this_told a_this_st a_this_text v_this_letters v_this_place v_this_token v_this_value v_this_begins a_this_read v_this_clauses a_this_ahead v_this_undoMany a_this_isKept a_this_kept v_this_fewestMany v_this_fewestSets v_this_fewestSet v_this_fewestMost a_this_aside a_this_seens v_this_seenMany v_this_told v_this_st y1 hy2) gX9_alive_X9_frozen rfl hyV_X9_frozen ⟨rfl, rfl, (Nat.le_of_ble_eq_true rfl), (Nat.le_of_ble_eq_true rfl)⟩ rfl 0 rfl rfl [0, 1, 2] rfl rfl rfl (Nat.le_of_ble_eq_true rfl) ⟨Nat.zero_le _, Nat.zero_le _⟩ dX9_alive_11 ?_
  refine r_iconst C (-1) dX9_alive_14 (by decide) ?_
  refine r_ixor C dX9_alive_15 ?_
  refine r_iand C dX9_alive_16 ?_
  rw [← Option.some.inj hf]
  exact r_iret C hr hlk dX9_alive_17

theorem lk_X9_coldNow_1 : Cond.fieldLink RX9 7 "ParishCoatModel" "told" "[I" ∈ wsX9_coldNow := List.mem_of_getElem? (i := 1) rfl
theorem lk_X9_coldNow_2 : Cond.fieldLink RX9 13 "ParishCoatModel" "st" "[I" ∈ wsX9_coldNow := List.mem_of_getElem? (i := 2) rfl
theorem in_X9_coldNow_X9 : ∀ w ∈ u_ws RX9 TX9 21, w ∈ wsX9_coldNow := fun _ h => List.mem_cons_of_mem _ (List.mem_append_right _ h)
def f_X9_coldNow (v_this_told : Nat → Int32) (v_this_st : Nat → Int32) : Option (Int32) := if (v_this_told 2) = 0 then (some (5)) else (nz_ (v_this_told 2) (gd_ (31 + ((v_this_st 14) - (v_this_st 14) / (v_this_told 2) * (v_this_told 2))) 37 (some ((v_this_told (Int32.toNatClampNeg (31 + ((v_this_st 14) - (v_this_st 14) / (v_this_told 2) * (v_this_told 2)))))))))
def w_X9_coldNow (cyI cyZ cyW : ClassId) (a_this : Nat) (a_this_told : Nat) (a_this_st : Nat) (a_this_text : Nat) (v_this_letters : Int32) (v_this_place : Int32) (v_this_token : Int32) (v_this_value : Int32) (v_this_begins : Int32) (a_this_read : Nat) (v_this_clauses : Int32) (a_this_ahead : Nat) (v_this_undoMany : Int32) (a_this_isKept : Nat) (a_this_kept : Nat) (v_this_fewestMany : Int32) (v_this_fewestSets : Int32) (v_this_fewestSet : Int32) (v_this_fewestMost : Int32) (a_this_aside : Nat) (a_this_seens : Nat) (v_this_seenMany : Int32) (v_this_told : Nat → Int32) (v_this_st : Nat → Int32) : va_W := [(a_this, .inr (9, [.ref a_this_told, .ref a_this_st, .ref a_this_text, .int v_this_letters, .int v_this_place, .int v_this_token, .int v_this_value, .int v_this_begins, .ref a_this_read, .int v_this_clauses, .ref a_this_ahead, .int v_this_undoMany, .ref a_this_isKept, .ref a_this_kept, .int v_this_fewestMany, .int v_this_fewestSets, .int v_this_fewestSet, .int v_this_fewestMost, .ref a_this_aside, .ref a_this_seens, .int v_this_seenMany])), (a_this_told, .inl (cyI, 37, .inl v_this_told)), (a_this_st, .inl (cyI, 15, .inl v_this_st))]
set_option maxHeartbeats 4000000 in
set_option maxRecDepth 100000 in
theorem c_X9_coldNow (l : Launch) (D : va_G) (cyI cyZ cyW : ClassId) (a_this : Nat) (a_this_told : Nat) (a_this_st : Nat) (a_this_text : Nat) (v_this_letters : Int32) (v_this_place : Int32) (v_this_token : Int32) (v_this_value : Int32) (v_this_begins : Int32) (a_this_read : Nat) (v_this_clauses : Int32) (a_this_ahead : Nat) (v_this_undoMany : Int32) (a_this_isKept : Nat) (a_this_kept : Nat) (v_this_fewestMany : Int32) (v_this_fewestSets : Int32) (v_this_fewestSet : Int32) (v_this_fewestMost : Int32) (a_this_aside : Nat) (a_this_seens : Nat) (v_this_seenMany : Int32) (v_this_told : Nat → Int32) (v_this_st : Nat → Int32) (res : Int32) (hf : f_X9_coldNow v_this_told v_this_st = some res) : ∀ sz, Met l yX9_coldNow wsX9_coldNow { frames := 0, cells := 0, slots := 0, locals := 0 } (PCx D (tyG cyI cyZ cyW) [.ref a_this] (w_X9_coldNow cyI cyZ cyW a_this a_this_told a_this_st a_this_text v_this_letters v_this_place v_this_token v_this_value v_this_begins a_this_read v_this_clauses a_this_ahead v_this_undoMany a_this_isKept a_this_kept v_this_fewestMany v_this_fewestSets v_this_fewestSet v_this_fewestMost a_this_aside a_this_seens v_this_seenMany v_this_told v_this_st) sz) (QI D (tyG cyI cyZ cyW) (w_X9_coldNow cyI cyZ cyW a_this a_this_told a_this_st a_this_text v_this_letters v_this_place v_this_token v_this_value v_this_begins a_this_read v_this_clauses a_this_ahead v_this_undoMany a_this_isKept a_this_kept v_this_fewestMany v_this_fewestSets v_this_fewestSet v_this_fewestMost a_this_aside a_this_seens v_this_seenMany v_this_told v_this_st) sz res (w_X9_coldNow cyI cyZ cyW a_this a_this_told a_this_st a_this_text v_this_letters v_this_place v_this_token v_this_value v_this_begins a_this_read v_this_clauses a_this_ahead v_this_undoMany a_this_isKept a_this_kept v_this_fewestMany v_this_fewestSets v_this_fewestSet v_this_fewestMost a_this_aside a_this_seens v_this_seenMany v_this_told v_this_st)) 0 0 (va_A (w_X9_coldNow cyI cyZ cyW a_this a_this_told a_this_st a_this_text v_this_letters v_this_place v_this_token v_this_value v_this_begins a_this_read v_this_clauses a_this_ahead v_this_undoMany a_this_isKept a_this_kept v_this_fewestMany v_this_fewestSets v_this_fewestSet v_this_fewestMost a_this_aside a_this_seens v_this_seenMany v_this_told v_this_st) sz) := by
  intro sz
  refine met_of (cc := cX9_coldNow) (maxL := 1) (ret := (some .int)) (lv0 := [(0, .ref a_this)]) (by decide) rfl ⟨(Nat.le_of_ble_eq_true rfl), rfl⟩ ?_
  intro p e s m below meth c C hr hlk hnm hsz
  subst hsz
  have C : CX p s m _ c 1 cX9_coldNow RX9 wsX9_coldNow D (tyG cyI cyZ cyW) _ := C
  refine r_aload_n C dX9_coldNow_0 rfl 0 rfl ?_
  refine r_get C in_X9_coldNow_X9 0 rfl rfl 0 (by decide) lk_X9_coldNow_1 rfl rfl dX9_coldNow_1 ?_
  refine r_iconst C 2 dX9_coldNow_4 (by decide) ?_
  refine r_iald_k C 2 1 0 rfl rfl (kk_ 2 37 (by decide) (by decide)) dX9_coldNow_5 ?_
  refine r_if_ne C 13 dX9_coldNow_6 (by decide) hf (fun hf => ?_) (fun hf => ?_)
  · refine r_aload_n C dX9_coldNow_13 rfl 0 rfl ?_
    refine r_get C in_X9_coldNow_X9 0 rfl rfl 0 (by decide) lk_X9_coldNow_1 rfl rfl dX9_coldNow_14 ?_
    refine r_bipush C 31 dX9_coldNow_17 (by decide) ?_
    refine r_aload_n C dX9_coldNow_19 rfl 0 rfl ?_
    refine r_get C in_X9_coldNow_X9 0 rfl rfl 1 (by decide) lk_X9_coldNow_2 rfl rfl dX9_coldNow_20 ?_
    refine r_bipush C 14 dX9_coldNow_23 (by decide) ?_
    refine r_iald_k C 14 2 0 rfl rfl (kk_ 14 15 (by decide) (by decide)) dX9_coldNow_25 ?_
    refine r_aload_n C dX9_coldNow_26 rfl 0 rfl ?_
    refine r_get C in_X9_coldNow_X9 0 rfl rfl 0 (by decide) lk_X9_coldNow_1 rfl rfl dX9_coldNow_27 ?_
    refine r_iconst C 2 dX9_coldNow_30 (by decide) ?_
    refine r_iald_k C 2 1 0 rfl rfl (kk_ 2 37 (by decide) (by decide)) dX9_coldNow_31 ?_
    obtain ⟨hz1, hf⟩ := nz_some hf
    refine r_irem C dX9_coldNow_32 hz1 ?_
    refine r_iadd C dX9_coldNow_33 ?_
    obtain ⟨hi2, hf⟩ := gd_some hf
    refine r_iald C 1 0 rfl rfl hi2 dX9_coldNow_34 ?_
    rw [← Option.some.inj hf]
    exact r_iret C hr hlk dX9_coldNow_35
  · refine r_iconst C 5 dX9_coldNow_9 (by decide) ?_
    refine r_goto C 35 dX9_coldNow_10 (by decide) ?_
    rw [← Option.some.inj hf]
    exact r_iret C hr hlk dX9_coldNow_35

theorem lk_X9_warmBy_1 : Cond.fieldLink RX9 7 "ParishCoatModel" "told" "[I" ∈ wsX9_warmBy := List.mem_of_getElem? (i := 1) rfl
theorem in_X9_warmBy_X9 : ∀ w ∈ u_ws RX9 TX9 21, w ∈ wsX9_warmBy := fun _ h => List.mem_cons_of_mem _ (List.mem_append_right _ h)
theorem hyV_X9_has : yX9_has.cls = RX9 ∧ yX9_has.cls ≠ "java/lang/invoke/MethodHandle" ∧ yX9_has.cls ≠ "java/lang/invoke/VarHandle" ∧ (parseMethodDescriptor yX9_has.desc).map (fun d => d.parameters.length) = some 2 := by decide +kernel
theorem hyS_X9_has : yX9_has.cls ≠ "java/lang/invoke/MethodHandle" ∧ yX9_has.cls ≠ "java/lang/invoke/VarHandle" ∧ (parseMethodDescriptor yX9_has.desc).map (fun d => d.parameters.length) = some 2 := by decide +kernel
def f_X9_warmBy_b86 (v_this_told : Nat → Int32) (k_4 : Int32 → Int32 → Int32 → Option (Int32)) (x1 : Int32) (x3 : Int32) (s0 : Int32) (s1 : Int32) : Option (Int32) := k_4 x1 (s1 + s0) (x3 + 1)
def f_X9_warmBy_b43 (v_this_told : Nat → Int32) (k_4 : Int32 → Int32 → Int32 → Option (Int32)) (x1 : Int32) (x2 : Int32) (x3 : Int32) (s0 : Int32) : Option (Int32) := (f_X9_has x1 x3).bind fun y5 => if y5 = 0 then (f_X9_warmBy_b86 v_this_told k_4 x1 x3 0 x2) else (if s0 = 0 then (gd_ (10 + x3) 37 (f_X9_warmBy_b86 v_this_told k_4 x1 x3 ((v_this_told (Int32.toNatClampNeg (10 + x3))) / 2) x2)) else (gd_ (10 + x3) 37 (f_X9_warmBy_b86 v_this_told k_4 x1 x3 (v_this_told (Int32.toNatClampNeg (10 + x3))) x2)))
def f_X9_warmBy_b38 (v_this_told : Nat → Int32) (k_4 : Int32 → Int32 → Int32 → Option (Int32)) (x1 : Int32) (x2 : Int32) (x3 : Int32) : Option (Int32) := f_X9_warmBy_b43 v_this_told k_4 x1 x2 x3 1
def f_X9_warmBy_b42 (v_this_told : Nat → Int32) (k_4 : Int32 → Int32 → Int32 → Option (Int32)) (x1 : Int32) (x2 : Int32) (x3 : Int32) : Option (Int32) := f_X9_warmBy_b43 v_this_told k_4 x1 x2 x3 0
def f_X9_warmBy_s4 (v_this_told : Nat → Int32) (k_4 : Int32 → Int32 → Int32 → Option (Int32)) (x1 : Int32) (x2 : Int32) (x3 : Int32) : Option (Int32) := if (v_this_told 0) ≤ x3 then (some (x2)) else ((f_X9_has x1 (x3 + 1)).bind fun y1 => if y1 = 0 then (if x3 ≤ 0 then (f_X9_warmBy_b42 v_this_told k_4 x1 x2 x3) else ((f_X9_has x1 (x3 - 1)).bind fun y3 => if y3 = 0 then (f_X9_warmBy_b42 v_this_told k_4 x1 x2 x3) else (f_X9_warmBy_b38 v_this_told k_4 x1 x2 x3))) else (f_X9_warmBy_b38 v_this_told k_4 x1 x2 x3))
def f_X9_warmBy_b4 (v_this_told : Nat → Int32) (n : Nat) : Int32 → Int32 → Int32 → Option (Int32) := it_ (f_X9_warmBy_s4 v_this_told ) (fun _ _ _ => none) n
def f_X9_warmBy (v_this_told : Nat → Int32) (x1 : Int32) : Option (Int32) := f_X9_warmBy_b4 v_this_told 5000 x1 0 0
def w_X9_warmBy (cyI cyZ cyW : ClassId) (a_this : Nat) (a_this_told : Nat) (a_this_st : Nat) (a_this_text : Nat) (v_this_letters : Int32) (v_this_place : Int32) (v_this_token : Int32) (v_this_value : Int32) (v_this_begins : Int32) (a_this_read : Nat) (v_this_clauses : Int32) (a_this_ahead : Nat) (v_this_undoMany : Int32) (a_this_isKept : Nat) (a_this_kept : Nat) (v_this_fewestMany : Int32) (v_this_fewestSets : Int32) (v_this_fewestSet : Int32) (v_this_fewestMost : Int32) (a_this_aside : Nat) (a_this_seens : Nat) (v_this_seenMany : Int32) (v_this_told : Nat → Int32) : va_W := [(a_this, .inr (9, [.ref a_this_told, .ref a_this_st, .ref a_this_text, .int v_this_letters, .int v_this_place, .int v_this_token, .int v_this_value, .int v_this_begins, .ref a_this_read, .int v_this_clauses, .ref a_this_ahead, .int v_this_undoMany, .ref a_this_isKept, .ref a_this_kept, .int v_this_fewestMany, .int v_this_fewestSets, .int v_this_fewestSet, .int v_this_fewestMost, .ref a_this_aside, .ref a_this_seens, .int v_this_seenMany])), (a_this_told, .inl (cyI, 37, .inl v_this_told))]
set_option maxHeartbeats 4000000 in
set_option maxRecDepth 100000 in
theorem c_X9_warmBy (l : Launch) (D : va_G) (cyI cyZ cyW : ClassId) (a_this : Nat) (a_this_told : Nat) (a_this_st : Nat) (a_this_text : Nat) (v_this_letters : Int32) (v_this_place : Int32) (v_this_token : Int32) (v_this_value : Int32) (v_this_begins : Int32) (a_this_read : Nat) (v_this_clauses : Int32) (a_this_ahead : Nat) (v_this_undoMany : Int32) (a_this_isKept : Nat) (a_this_kept : Nat) (v_this_fewestMany : Int32) (v_this_fewestSets : Int32) (v_this_fewestSet : Int32) (v_this_fewestMost : Int32) (a_this_aside : Nat) (a_this_seens : Nat) (v_this_seenMany : Int32) (v_this_told : Nat → Int32) (x1 : Int32) (res : Int32) (hf : f_X9_warmBy v_this_told x1 = some res) : ∀ sz, Met l yX9_warmBy wsX9_warmBy { frames := 1, cells := 0, slots := 0, locals := 21 } (PCx D (tyG cyI cyZ cyW) [.ref a_this, .int x1] (w_X9_warmBy cyI cyZ cyW a_this a_this_told a_this_st a_this_text v_this_letters v_this_place v_this_token v_this_value v_this_begins a_this_read v_this_clauses a_this_ahead v_this_undoMany a_this_isKept a_this_kept v_this_fewestMany v_this_fewestSets v_this_fewestSet v_this_fewestMost a_this_aside a_this_seens v_this_seenMany v_this_told) sz) (QI D (tyG cyI cyZ cyW) (w_X9_warmBy cyI cyZ cyW a_this a_this_told a_this_st a_this_text v_this_letters v_this_place v_this_token v_this_value v_this_begins a_this_read v_this_clauses a_this_ahead v_this_undoMany a_this_isKept a_this_kept v_this_fewestMany v_this_fewestSets v_this_fewestSet v_this_fewestMost a_this_aside a_this_seens v_this_seenMany v_this_told) sz res (w_X9_warmBy cyI cyZ cyW a_this a_this_told a_this_st a_this_text v_this_letters v_this_place v_this_token v_this_value v_this_begins a_this_read v_this_clauses a_this_ahead v_this_undoMany a_this_isKept a_this_kept v_this_fewestMany v_this_fewestSets v_this_fewestSet v_this_fewestMost a_this_aside a_this_seens v_this_seenMany v_this_told)) 0 0 (va_A (w_X9_warmBy cyI cyZ cyW a_this a_this_told a_this_st a_this_text v_this_letters v_this_place v_this_token v_this_value v_this_begins a_this_read v_this_clauses a_this_ahead v_this_undoMany a_this_isKept a_this_kept v_this_fewestMany v_this_fewestSets v_this_fewestSet v_this_fewestMost a_this_aside a_this_seens v_this_seenMany v_this_told) sz) := by
  intro sz
  refine met_of (cc := cX9_warmBy) (maxL := 5) (ret := (some .int)) (lv0 := [(0, .ref a_this), (1, .int x1)]) (by decide) rfl ⟨(Nat.le_of_ble_eq_true rfl), rfl⟩ ?_
  intro p e s m below meth c C hr hlk hnm hsz
  subst hsz
  have C : CX p s m _ c 5 cX9_warmBy RX9 wsX9_warmBy D (tyG cyI cyZ cyW) _ := C
  obtain ⟨Z, hZ⟩ : ∃ Z : va_W → Nat → LV → List Value → Prop, Z = ST p l e { frames := 1, cells := 0, slots := 0, locals := 21 } s m [.ref a_this, .int x1].toArray below meth c 5 D (va_A (w_X9_warmBy cyI cyZ cyW a_this a_this_told a_this_st a_this_text v_this_letters v_this_place v_this_token v_this_value v_this_begins a_this_read v_this_clauses a_this_ahead v_this_undoMany a_this_isKept a_this_kept v_this_fewestMany v_this_fewestSets v_this_fewestSet v_this_fewestMost a_this_aside a_this_seens v_this_seenMany v_this_told) s.heap.size) (MQ below (QI D (tyG cyI cyZ cyW) (w_X9_warmBy cyI cyZ cyW a_this a_this_told a_this_st a_this_text v_this_letters v_this_place v_this_token v_this_value v_this_begins a_this_read v_this_clauses a_this_ahead v_this_undoMany a_this_isKept a_this_kept v_this_fewestMany v_this_fewestSets v_this_fewestSet v_this_fewestMost a_this_aside a_this_seens v_this_seenMany v_this_told) s.heap.size res (w_X9_warmBy cyI cyZ cyW a_this a_this_told a_this_st a_this_text v_this_letters v_this_place v_this_token v_this_value v_this_begins a_this_read v_this_clauses a_this_ahead v_this_undoMany a_this_isKept a_this_kept v_this_fewestMany v_this_fewestSets v_this_fewestSet v_this_fewestMost a_this_aside a_this_seens v_this_seenMany v_this_told)) [.ref a_this, .int x1].toArray s 0 0 (va_A (w_X9_warmBy cyI cyZ cyW a_this a_this_told a_this_st a_this_text v_this_letters v_this_place v_this_token v_this_value v_this_begins a_this_read v_this_clauses a_this_ahead v_this_undoMany a_this_isKept a_this_kept v_this_fewestMany v_this_fewestSets v_this_fewestSet v_this_fewestMost a_this_aside a_this_seens v_this_seenMany v_this_told) s.heap.size)) 0 0 := ⟨_, rfl⟩
  have hb_86 : ∀ (k_4 : Int32 → Int32 → Int32 → Option (Int32)), (∀ (x1 : Int32) (x2 : Int32) (x3 : Int32), k_4 x1 x2 x3 = some res → Z (w_X9_warmBy cyI cyZ cyW a_this a_this_told a_this_st a_this_text v_this_letters v_this_place v_this_token v_this_value v_this_begins a_this_read v_this_clauses a_this_ahead v_this_undoMany a_this_isKept a_this_kept v_this_fewestMany v_this_fewestSets v_this_fewestSet v_this_fewestMost a_this_aside a_this_seens v_this_seenMany v_this_told) 4 [(0, .ref a_this), (1, .int x1), (2, .int x2), (3, .int x3)] []) → ∀ (x1 : Int32) (x3 : Int32) (s0 : Int32) (s1 : Int32), f_X9_warmBy_b86 v_this_told k_4 x1 x3 s0 s1 = some res → Z (w_X9_warmBy cyI cyZ cyW a_this a_this_told a_this_st a_this_text v_this_letters v_this_place v_this_token v_this_value v_this_begins a_this_read v_this_clauses a_this_ahead v_this_undoMany a_this_isKept a_this_kept v_this_fewestMany v_this_fewestSets v_this_fewestSet v_this_fewestMost a_this_aside a_this_seens v_this_seenMany v_this_told) 86 [(0, .ref a_this), (1, .int x1), (3, .int x3)] [.int s0, .int s1] := by
    subst hZ
    intro k_4 hk_4 x1 x3 s0 s1 hf
    refine r_iadd C dX9_warmBy_86 ?_
    refine r_istore_n (lv' := [(2, .int (s1 + s0)), (0, .ref a_this), (1, .int x1), (3, .int x3)]) C dX9_warmBy_87 rfl (by decide) rfl ?_
    refine r_iinc (v := 1) (k := 3) (lv' := [(3, .int (x3 + 1)), (2, .int (s1 + s0)), (0, .ref a_this), (1, .int x1)]) C dX9_warmBy_88 rfl (by decide) (by decide) rfl ?_
    refine r_goto C 4 dX9_warmBy_91 (by decide) ?_
    exact ST_lv [2, 3, 1, 0] rfl (hk_4 x1 (s1 + s0) (x3 + 1) hf)
  have hb_43 : ∀ (k_4 : Int32 → Int32 → Int32 → Option (Int32)), (∀ (x1 : Int32) (x2 : Int32) (x3 : Int32), k_4 x1 x2 x3 = some res → Z (w_X9_warmBy cyI cyZ cyW a_this a_this_told a_this_st a_this_text v_this_letters v_this_place v_this_token v_this_value v_this_begins a_this_read v_this_clauses a_this_ahead v_this_undoMany a_this_isKept a_this_kept v_this_fewestMany v_this_fewestSets v_this_fewestSet v_this_fewestMost a_this_aside a_this_seens v_this_seenMany v_this_told) 4 [(0, .ref a_this), (1, .int x1), (2, .int x2), (3, .int x3)] []) → ∀ (x1 : Int32) (x2 : Int32) (x3 : Int32) (s0 : Int32), f_X9_warmBy_b43 v_this_told k_4 x1 x2 x3 s0 = some res → Z (w_X9_warmBy cyI cyZ cyW a_this a_this_told a_this_st a_this_text v_this_letters v_this_place v_this_token v_this_value v_this_begins a_this_read v_this_clauses a_this_ahead v_this_undoMany a_this_isKept a_this_kept v_this_fewestMany v_this_fewestSets v_this_fewestSet v_this_fewestMost a_this_aside a_this_seens v_this_seenMany v_this_told) 43 [(0, .ref a_this), (1, .int x1), (2, .int x2), (3, .int x3)] [.int s0] := by
    subst hZ
    intro k_4 hk_4 x1 x2 x3 s0 hf
    refine r_istore (lv' := [(4, .int s0), (0, .ref a_this), (1, .int x1), (2, .int x2), (3, .int x3)]) C dX9_warmBy_43 (by decide) rfl ?_
    refine r_iload_n C dX9_warmBy_45 rfl 3 rfl ?_
    refine r_iload_n C dX9_warmBy_46 rfl 2 rfl ?_
    refine r_iload_n C dX9_warmBy_47 rfl 4 rfl ?_
    obtain ⟨y5, hy6, hf⟩ := bd_some hf
    refine r_roS_i (As := [.int x1, .int x3]) (rest := [.int x2]) C (c_X9_has l D cyI cyZ cyW x1 x3 y5 hy6) gX9_warmBy_X9_has rfl hyS_X9_has ⟨rfl, rfl, (Nat.le_of_ble_eq_true rfl), (Nat.le_of_ble_eq_true rfl)⟩ rfl [] rfl rfl rfl (Nat.le_of_ble_eq_true rfl) ⟨Nat.zero_le _, Nat.zero_le _⟩ dX9_warmBy_48 ?_
    refine r_if_ne C 58 dX9_warmBy_51 (by decide) hf (fun hf => ?_) (fun hf => ?_)
    · refine r_iload C dX9_warmBy_58 0 rfl ?_
      refine r_if_eq C 75 dX9_warmBy_60 (by decide) hf (fun hf => ?_) (fun hf => ?_)
      · refine r_aload_n C dX9_warmBy_75 rfl 1 rfl ?_
        refine r_get C in_X9_warmBy_X9 0 rfl rfl 0 (by decide) lk_X9_warmBy_1 rfl rfl dX9_warmBy_76 ?_
        refine r_bipush C 10 dX9_warmBy_79 (by decide) ?_
        refine r_iload_n C dX9_warmBy_81 rfl 4 rfl ?_
        refine r_iadd C dX9_warmBy_82 ?_
        obtain ⟨hi7, hf⟩ := gd_some hf
        refine r_iald C 1 0 rfl rfl hi7 dX9_warmBy_83 ?_
        refine r_iconst C 2 dX9_warmBy_84 (by decide) ?_
        refine r_idiv C dX9_warmBy_85 (by decide) ?_
        exact ST_lv [1, 2, 4] rfl (hb_86 k_4 hk_4 x1 x3 ((v_this_told (Int32.toNatClampNeg (10 + x3))) / 2) x2 hf)
      · refine r_aload_n C dX9_warmBy_63 rfl 1 rfl ?_
        refine r_get C in_X9_warmBy_X9 0 rfl rfl 0 (by decide) lk_X9_warmBy_1 rfl rfl dX9_warmBy_64 ?_
        refine r_bipush C 10 dX9_warmBy_67 (by decide) ?_
        refine r_iload_n C dX9_warmBy_69 rfl 4 rfl ?_
        refine r_iadd C dX9_warmBy_70 ?_
        obtain ⟨hi8, hf⟩ := gd_some hf
        refine r_iald C 1 0 rfl rfl hi8 dX9_warmBy_71 ?_
        refine r_goto C 86 dX9_warmBy_72 (by decide) ?_
        exact ST_lv [1, 2, 4] rfl (hb_86 k_4 hk_4 x1 x3 (v_this_told (Int32.toNatClampNeg (10 + x3))) x2 hf)
    · refine r_iconst C 0 dX9_warmBy_54 (by decide) ?_
      refine r_goto C 86 dX9_warmBy_55 (by decide) ?_
      exact ST_lv [1, 2, 4] rfl (hb_86 k_4 hk_4 x1 x3 0 x2 hf)
  have hb_38 : ∀ (k_4 : Int32 → Int32 → Int32 → Option (Int32)), (∀ (x1 : Int32) (x2 : Int32) (x3 : Int32), k_4 x1 x2 x3 = some res → Z (w_X9_warmBy cyI cyZ cyW a_this a_this_told a_this_st a_this_text v_this_letters v_this_place v_this_token v_this_value v_this_begins a_this_read v_this_clauses a_this_ahead v_this_undoMany a_this_isKept a_this_kept v_this_fewestMany v_this_fewestSets v_this_fewestSet v_this_fewestMost a_this_aside a_this_seens v_this_seenMany v_this_told) 4 [(0, .ref a_this), (1, .int x1), (2, .int x2), (3, .int x3)] []) → ∀ (x1 : Int32) (x2 : Int32) (x3 : Int32), f_X9_warmBy_b38 v_this_told k_4 x1 x2 x3 = some res → Z (w_X9_warmBy cyI cyZ cyW a_this a_this_told a_this_st a_this_text v_this_letters v_this_place v_this_token v_this_value v_this_begins a_this_read v_this_clauses a_this_ahead v_this_undoMany a_this_isKept a_this_kept v_this_fewestMany v_this_fewestSets v_this_fewestSet v_this_fewestMost a_this_aside a_this_seens v_this_seenMany v_this_told) 38 [(0, .ref a_this), (1, .int x1), (2, .int x2), (3, .int x3)] [] := by
    subst hZ
    intro k_4 hk_4 x1 x2 x3 hf
    refine r_iconst C 1 dX9_warmBy_38 (by decide) ?_
    refine r_goto C 43 dX9_warmBy_39 (by decide) ?_
    exact ST_lv [0, 1, 2, 3] rfl (hb_43 k_4 hk_4 x1 x2 x3 1 hf)
  have hb_42 : ∀ (k_4 : Int32 → Int32 → Int32 → Option (Int32)), (∀ (x1 : Int32) (x2 : Int32) (x3 : Int32), k_4 x1 x2 x3 = some res → Z (w_X9_warmBy cyI cyZ cyW a_this a_this_told a_this_st a_this_text v_this_letters v_this_place v_this_token v_this_value v_this_begins a_this_read v_this_clauses a_this_ahead v_this_undoMany a_this_isKept a_this_kept v_this_fewestMany v_this_fewestSets v_this_fewestSet v_this_fewestMost a_this_aside a_this_seens v_this_seenMany v_this_told) 4 [(0, .ref a_this), (1, .int x1), (2, .int x2), (3, .int x3)] []) → ∀ (x1 : Int32) (x2 : Int32) (x3 : Int32), f_X9_warmBy_b42 v_this_told k_4 x1 x2 x3 = some res → Z (w_X9_warmBy cyI cyZ cyW a_this a_this_told a_this_st a_this_text v_this_letters v_this_place v_this_token v_this_value v_this_begins a_this_read v_this_clauses a_this_ahead v_this_undoMany a_this_isKept a_this_kept v_this_fewestMany v_this_fewestSets v_this_fewestSet v_this_fewestMost a_this_aside a_this_seens v_this_seenMany v_this_told) 42 [(0, .ref a_this), (1, .int x1), (2, .int x2), (3, .int x3)] [] := by
    subst hZ
    intro k_4 hk_4 x1 x2 x3 hf
    refine r_iconst C 0 dX9_warmBy_42 (by decide) ?_
    exact ST_lv [0, 1, 2, 3] rfl (hb_43 k_4 hk_4 x1 x2 x3 0 hf)
  have hs_4 : ∀ (k_4 : Int32 → Int32 → Int32 → Option (Int32)), (∀ (x1 : Int32) (x2 : Int32) (x3 : Int32), k_4 x1 x2 x3 = some res → Z (w_X9_warmBy cyI cyZ cyW a_this a_this_told a_this_st a_this_text v_this_letters v_this_place v_this_token v_this_value v_this_begins a_this_read v_this_clauses a_this_ahead v_this_undoMany a_this_isKept a_this_kept v_this_fewestMany v_this_fewestSets v_this_fewestSet v_this_fewestMost a_this_aside a_this_seens v_this_seenMany v_this_told) 4 [(0, .ref a_this), (1, .int x1), (2, .int x2), (3, .int x3)] []) → ∀ (x1 : Int32) (x2 : Int32) (x3 : Int32), f_X9_warmBy_s4 v_this_told k_4 x1 x2 x3 = some res → Z (w_X9_warmBy cyI cyZ cyW a_this a_this_told a_this_st a_this_text v_this_letters v_this_place v_this_token v_this_value v_this_begins a_this_read v_this_clauses a_this_ahead v_this_undoMany a_this_isKept a_this_kept v_this_fewestMany v_this_fewestSets v_this_fewestSet v_this_fewestMost a_this_aside a_this_seens v_this_seenMany v_this_told) 4 [(0, .ref a_this), (1, .int x1), (2, .int x2), (3, .int x3)] [] := by
    subst hZ
    intro k_4 hk_4 x1 x2 x3 hf
    refine r_iload_n C dX9_warmBy_4 rfl 3 rfl ?_
    refine r_aload_n C dX9_warmBy_5 rfl 0 rfl ?_
    refine r_get C in_X9_warmBy_X9 0 rfl rfl 0 (by decide) lk_X9_warmBy_1 rfl rfl dX9_warmBy_6 ?_
    refine r_iconst C 0 dX9_warmBy_9 (by decide) ?_
    refine r_iald_k C 0 1 0 rfl rfl (kk_ 0 37 (by decide) (by decide)) dX9_warmBy_10 ?_
    refine r_icmp_ge C 94 dX9_warmBy_11 (by decide) hf (fun hf => ?_) (fun hf => ?_)
    · refine r_iload_n C dX9_warmBy_94 rfl 2 rfl ?_
      rw [← Option.some.inj hf]
      exact r_iret C hr hlk dX9_warmBy_95
    · refine r_iload_n C dX9_warmBy_14 rfl 1 rfl ?_
      refine r_iload_n C dX9_warmBy_15 rfl 3 rfl ?_
      refine r_iconst C 1 dX9_warmBy_16 (by decide) ?_
      refine r_iadd C dX9_warmBy_17 ?_
      obtain ⟨y1, hy2, hf⟩ := bd_some hf
      refine r_roS_i (As := [.int x1, .int (x3 + 1)]) (rest := []) C (c_X9_has l D cyI cyZ cyW x1 (x3 + 1) y1 hy2) gX9_warmBy_X9_has rfl hyS_X9_has ⟨rfl, rfl, (Nat.le_of_ble_eq_true rfl), (Nat.le_of_ble_eq_true rfl)⟩ rfl [] rfl rfl rfl (Nat.le_of_ble_eq_true rfl) ⟨Nat.zero_le _, Nat.zero_le _⟩ dX9_warmBy_18 ?_
      refine r_if_ne C 38 dX9_warmBy_21 (by decide) hf (fun hf => ?_) (fun hf => ?_)
      · exact ST_lv [0, 1, 2, 3] rfl (hb_38 k_4 hk_4 x1 x2 x3 hf)
      · refine r_iload_n C dX9_warmBy_24 rfl 3 rfl ?_
        refine r_if_le C 42 dX9_warmBy_25 (by decide) hf (fun hf => ?_) (fun hf => ?_)
        · exact ST_lv [0, 1, 2, 3] rfl (hb_42 k_4 hk_4 x1 x2 x3 hf)
        · refine r_iload_n C dX9_warmBy_28 rfl 1 rfl ?_
          refine r_iload_n C dX9_warmBy_29 rfl 3 rfl ?_
          refine r_iconst C 1 dX9_warmBy_30 (by decide) ?_
          refine r_isub C dX9_warmBy_31 ?_
          obtain ⟨y3, hy4, hf⟩ := bd_some hf
          refine r_roS_i (As := [.int x1, .int (x3 - 1)]) (rest := []) C (c_X9_has l D cyI cyZ cyW x1 (x3 - 1) y3 hy4) gX9_warmBy_X9_has rfl hyS_X9_has ⟨rfl, rfl, (Nat.le_of_ble_eq_true rfl), (Nat.le_of_ble_eq_true rfl)⟩ rfl [] rfl rfl rfl (Nat.le_of_ble_eq_true rfl) ⟨Nat.zero_le _, Nat.zero_le _⟩ dX9_warmBy_32 ?_
          refine r_if_eq C 42 dX9_warmBy_35 (by decide) hf (fun hf => ?_) (fun hf => ?_)
          · exact ST_lv [0, 1, 2, 3] rfl (hb_42 k_4 hk_4 x1 x2 x3 hf)
          · exact ST_lv [0, 1, 2, 3] rfl (hb_38 k_4 hk_4 x1 x2 x3 hf)
  have hb_4 : ∀ (n : Nat) (x1 : Int32) (x2 : Int32) (x3 : Int32), f_X9_warmBy_b4 v_this_told n x1 x2 x3 = some res → Z (w_X9_warmBy cyI cyZ cyW a_this a_this_told a_this_st a_this_text v_this_letters v_this_place v_this_token v_this_value v_this_begins a_this_read v_this_clauses a_this_ahead v_this_undoMany a_this_isKept a_this_kept v_this_fewestMany v_this_fewestSets v_this_fewestSet v_this_fewestMost a_this_aside a_this_seens v_this_seenMany v_this_told) 4 [(0, .ref a_this), (1, .int x1), (2, .int x2), (3, .int x3)] [] := by
    intro  n
    induction n with
    | zero => intro x1 x2 x3 hf; exact nn_ hf
    | succ n ih => exact fun x1 x2 x3 hf => hs_4 _ ih x1 x2 x3 hf
  subst hZ
  refine r_iconst C 0 dX9_warmBy_0 (by decide) ?_
  refine r_istore_n (lv' := [(2, .int 0), (0, .ref a_this), (1, .int x1)]) C dX9_warmBy_1 rfl (by decide) rfl ?_
  refine r_iconst C 0 dX9_warmBy_2 (by decide) ?_
  refine r_istore_n (lv' := [(3, .int 0), (2, .int 0), (0, .ref a_this), (1, .int x1)]) C dX9_warmBy_3 rfl (by decide) rfl ?_
  exact ST_lv [2, 3, 1, 0] rfl (hb_4 5000 x1 0 0 hf)

theorem lk_X9_weightBy_1 : Cond.fieldLink RX9 7 "ParishCoatModel" "told" "[I" ∈ wsX9_weightBy := List.mem_of_getElem? (i := 1) rfl
theorem in_X9_weightBy_X9 : ∀ w ∈ u_ws RX9 TX9 21, w ∈ wsX9_weightBy := fun _ h => List.mem_cons_of_mem _ (List.mem_append_right _ h)
def f_X9_weightBy_b23 (v_this_told : Nat → Int32) : Option (Int32) := some (2)
def f_X9_weightBy_b27 (v_this_told : Nat → Int32) (x2 : Int32) (x3 : Int32) : Option (Int32) := if x3 = 3 then (if x2 = 0 then (some (1)) else (some (0))) else (some (1))
def f_X9_weightBy (v_this_told : Nat → Int32) (x1 : Int32) (x2 : Int32) : Option (Int32) := gd_ (3 + x1) 37 (if (v_this_told (Int32.toNatClampNeg (3 + x1))) = 2 then (f_X9_weightBy_b23 v_this_told ) else (if (v_this_told (Int32.toNatClampNeg (3 + x1))) = 1 then (if x2 = 0 then (f_X9_weightBy_b27 v_this_told x2 (v_this_told (Int32.toNatClampNeg (3 + x1)))) else (f_X9_weightBy_b23 v_this_told )) else (f_X9_weightBy_b27 v_this_told x2 (v_this_told (Int32.toNatClampNeg (3 + x1))))))
def w_X9_weightBy (cyI cyZ cyW : ClassId) (a_this : Nat) (a_this_told : Nat) (a_this_st : Nat) (a_this_text : Nat) (v_this_letters : Int32) (v_this_place : Int32) (v_this_token : Int32) (v_this_value : Int32) (v_this_begins : Int32) (a_this_read : Nat) (v_this_clauses : Int32) (a_this_ahead : Nat) (v_this_undoMany : Int32) (a_this_isKept : Nat) (a_this_kept : Nat) (v_this_fewestMany : Int32) (v_this_fewestSets : Int32) (v_this_fewestSet : Int32) (v_this_fewestMost : Int32) (a_this_aside : Nat) (a_this_seens : Nat) (v_this_seenMany : Int32) (v_this_told : Nat → Int32) : va_W := [(a_this, .inr (9, [.ref a_this_told, .ref a_this_st, .ref a_this_text, .int v_this_letters, .int v_this_place, .int v_this_token, .int v_this_value, .int v_this_begins, .ref a_this_read, .int v_this_clauses, .ref a_this_ahead, .int v_this_undoMany, .ref a_this_isKept, .ref a_this_kept, .int v_this_fewestMany, .int v_this_fewestSets, .int v_this_fewestSet, .int v_this_fewestMost, .ref a_this_aside, .ref a_this_seens, .int v_this_seenMany])), (a_this_told, .inl (cyI, 37, .inl v_this_told))]
set_option maxHeartbeats 4000000 in
set_option maxRecDepth 100000 in
theorem c_X9_weightBy (l : Launch) (D : va_G) (cyI cyZ cyW : ClassId) (a_this : Nat) (a_this_told : Nat) (a_this_st : Nat) (a_this_text : Nat) (v_this_letters : Int32) (v_this_place : Int32) (v_this_token : Int32) (v_this_value : Int32) (v_this_begins : Int32) (a_this_read : Nat) (v_this_clauses : Int32) (a_this_ahead : Nat) (v_this_undoMany : Int32) (a_this_isKept : Nat) (a_this_kept : Nat) (v_this_fewestMany : Int32) (v_this_fewestSets : Int32) (v_this_fewestSet : Int32) (v_this_fewestMost : Int32) (a_this_aside : Nat) (a_this_seens : Nat) (v_this_seenMany : Int32) (v_this_told : Nat → Int32) (x1 : Int32) (x2 : Int32) (res : Int32) (hf : f_X9_weightBy v_this_told x1 x2 = some res) : ∀ sz, Met l yX9_weightBy wsX9_weightBy { frames := 0, cells := 0, slots := 0, locals := 0 } (PCx D (tyG cyI cyZ cyW) [.ref a_this, .int x1, .int x2] (w_X9_weightBy cyI cyZ cyW a_this a_this_told a_this_st a_this_text v_this_letters v_this_place v_this_token v_this_value v_this_begins a_this_read v_this_clauses a_this_ahead v_this_undoMany a_this_isKept a_this_kept v_this_fewestMany v_this_fewestSets v_this_fewestSet v_this_fewestMost a_this_aside a_this_seens v_this_seenMany v_this_told) sz) (QI D (tyG cyI cyZ cyW) (w_X9_weightBy cyI cyZ cyW a_this a_this_told a_this_st a_this_text v_this_letters v_this_place v_this_token v_this_value v_this_begins a_this_read v_this_clauses a_this_ahead v_this_undoMany a_this_isKept a_this_kept v_this_fewestMany v_this_fewestSets v_this_fewestSet v_this_fewestMost a_this_aside a_this_seens v_this_seenMany v_this_told) sz res (w_X9_weightBy cyI cyZ cyW a_this a_this_told a_this_st a_this_text v_this_letters v_this_place v_this_token v_this_value v_this_begins a_this_read v_this_clauses a_this_ahead v_this_undoMany a_this_isKept a_this_kept v_this_fewestMany v_this_fewestSets v_this_fewestSet v_this_fewestMost a_this_aside a_this_seens v_this_seenMany v_this_told)) 0 0 (va_A (w_X9_weightBy cyI cyZ cyW a_this a_this_told a_this_st a_this_text v_this_letters v_this_place v_this_token v_this_value v_this_begins a_this_read v_this_clauses a_this_ahead v_this_undoMany a_this_isKept a_this_kept v_this_fewestMany v_this_fewestSets v_this_fewestSet v_this_fewestMost a_this_aside a_this_seens v_this_seenMany v_this_told) sz) := by
  intro sz
  refine met_of (cc := cX9_weightBy) (maxL := 4) (ret := (some .int)) (lv0 := [(0, .ref a_this), (1, .int x1), (2, .int x2)]) (by decide) rfl ⟨(Nat.le_of_ble_eq_true rfl), rfl⟩ ?_
  intro p e s m below meth c C hr hlk hnm hsz
  subst hsz
  have C : CX p s m _ c 4 cX9_weightBy RX9 wsX9_weightBy D (tyG cyI cyZ cyW) _ := C
  obtain ⟨Z, hZ⟩ : ∃ Z : va_W → Nat → LV → List Value → Prop, Z = ST p l e { frames := 0, cells := 0, slots := 0, locals := 0 } s m [.ref a_this, .int x1, .int x2].toArray below meth c 4 D (va_A (w_X9_weightBy cyI cyZ cyW a_this a_this_told a_this_st a_this_text v_this_letters v_this_place v_this_token v_this_value v_this_begins a_this_read v_this_clauses a_this_ahead v_this_undoMany a_this_isKept a_this_kept v_this_fewestMany v_this_fewestSets v_this_fewestSet v_this_fewestMost a_this_aside a_this_seens v_this_seenMany v_this_told) s.heap.size) (MQ below (QI D (tyG cyI cyZ cyW) (w_X9_weightBy cyI cyZ cyW a_this a_this_told a_this_st a_this_text v_this_letters v_this_place v_this_token v_this_value v_this_begins a_this_read v_this_clauses a_this_ahead v_this_undoMany a_this_isKept a_this_kept v_this_fewestMany v_this_fewestSets v_this_fewestSet v_this_fewestMost a_this_aside a_this_seens v_this_seenMany v_this_told) s.heap.size res (w_X9_weightBy cyI cyZ cyW a_this a_this_told a_this_st a_this_text v_this_letters v_this_place v_this_token v_this_value v_this_begins a_this_read v_this_clauses a_this_ahead v_this_undoMany a_this_isKept a_this_kept v_this_fewestMany v_this_fewestSets v_this_fewestSet v_this_fewestMost a_this_aside a_this_seens v_this_seenMany v_this_told)) [.ref a_this, .int x1, .int x2].toArray s 0 0 (va_A (w_X9_weightBy cyI cyZ cyW a_this a_this_told a_this_st a_this_text v_this_letters v_this_place v_this_token v_this_value v_this_begins a_this_read v_this_clauses a_this_ahead v_this_undoMany a_this_isKept a_this_kept v_this_fewestMany v_this_fewestSets v_this_fewestSet v_this_fewestMost a_this_aside a_this_seens v_this_seenMany v_this_told) s.heap.size)) 0 0 := ⟨_, rfl⟩
  have hb_23 : f_X9_weightBy_b23 v_this_told = some res → Z (w_X9_weightBy cyI cyZ cyW a_this a_this_told a_this_st a_this_text v_this_letters v_this_place v_this_token v_this_value v_this_begins a_this_read v_this_clauses a_this_ahead v_this_undoMany a_this_isKept a_this_kept v_this_fewestMany v_this_fewestSets v_this_fewestSet v_this_fewestMost a_this_aside a_this_seens v_this_seenMany v_this_told) 23 [] [] := by
    subst hZ
    intro hf
    refine r_iconst C 2 dX9_weightBy_23 (by decide) ?_
    refine r_goto C 41 dX9_weightBy_24 (by decide) ?_
    rw [← Option.some.inj hf]
    exact r_iret C hr hlk dX9_weightBy_41
  have hb_27 : ∀ (x2 : Int32) (x3 : Int32), f_X9_weightBy_b27 v_this_told x2 x3 = some res → Z (w_X9_weightBy cyI cyZ cyW a_this a_this_told a_this_st a_this_text v_this_letters v_this_place v_this_token v_this_value v_this_begins a_this_read v_this_clauses a_this_ahead v_this_undoMany a_this_isKept a_this_kept v_this_fewestMany v_this_fewestSets v_this_fewestSet v_this_fewestMost a_this_aside a_this_seens v_this_seenMany v_this_told) 27 [(2, .int x2), (3, .int x3)] [] := by
    subst hZ
    intro x2 x3 hf
    refine r_iload_n C dX9_weightBy_27 rfl 1 rfl ?_
    refine r_iconst C 3 dX9_weightBy_28 (by decide) ?_
    refine r_icmp_ne C 40 dX9_weightBy_29 (by decide) hf (fun hf => ?_) (fun hf => ?_)
    · refine r_iconst C 1 dX9_weightBy_40 (by decide) ?_
      rw [← Option.some.inj hf]
      exact r_iret C hr hlk dX9_weightBy_41
    · refine r_iload_n C dX9_weightBy_32 rfl 0 rfl ?_
      refine r_if_eq C 40 dX9_weightBy_33 (by decide) hf (fun hf => ?_) (fun hf => ?_)
      · refine r_iconst C 1 dX9_weightBy_40 (by decide) ?_
        rw [← Option.some.inj hf]
        exact r_iret C hr hlk dX9_weightBy_41
      · refine r_iconst C 0 dX9_weightBy_36 (by decide) ?_
        refine r_goto C 41 dX9_weightBy_37 (by decide) ?_
        rw [← Option.some.inj hf]
        exact r_iret C hr hlk dX9_weightBy_41
  subst hZ
  refine r_aload_n C dX9_weightBy_0 rfl 0 rfl ?_
  refine r_get C in_X9_weightBy_X9 0 rfl rfl 0 (by decide) lk_X9_weightBy_1 rfl rfl dX9_weightBy_1 ?_
  refine r_iconst C 3 dX9_weightBy_4 (by decide) ?_
  refine r_iload_n C dX9_weightBy_5 rfl 1 rfl ?_
  refine r_iadd C dX9_weightBy_6 ?_
  obtain ⟨hi1, hf⟩ := gd_some hf
  refine r_iald C 1 0 rfl rfl hi1 dX9_weightBy_7 ?_
  refine r_istore_n (lv' := [(3, .int (v_this_told (Int32.toNatClampNeg (3 + x1)))), (0, .ref a_this), (1, .int x1), (2, .int x2)]) C dX9_weightBy_8 rfl (by decide) rfl ?_
  refine r_iload_n C dX9_weightBy_9 rfl 0 rfl ?_
  refine r_iconst C 2 dX9_weightBy_10 (by decide) ?_
  refine r_icmp_eq C 23 dX9_weightBy_11 (by decide) hf (fun hf => ?_) (fun hf => ?_)
  · exact ST_lv [] rfl (hb_23 hf)
  · refine r_iload_n C dX9_weightBy_14 rfl 0 rfl ?_
    refine r_iconst C 1 dX9_weightBy_15 (by decide) ?_
    refine r_icmp_ne C 27 dX9_weightBy_16 (by decide) hf (fun hf => ?_) (fun hf => ?_)
    · exact ST_lv [3, 0] rfl (hb_27 x2 (v_this_told (Int32.toNatClampNeg (3 + x1))) hf)
    · refine r_iload_n C dX9_weightBy_19 rfl 3 rfl ?_
      refine r_if_eq C 27 dX9_weightBy_20 (by decide) hf (fun hf => ?_) (fun hf => ?_)
      · exact ST_lv [3, 0] rfl (hb_27 x2 (v_this_told (Int32.toNatClampNeg (3 + x1))) hf)
      · exact ST_lv [] rfl (hb_23 hf)

theorem lk_X9_weightsBy_1 : Cond.fieldLink RX9 7 "ParishCoatModel" "told" "[I" ∈ wsX9_weightsBy := List.mem_of_getElem? (i := 1) rfl
theorem in_X9_weightsBy_X9 : ∀ w ∈ u_ws RX9 TX9 21, w ∈ wsX9_weightsBy := fun _ h => List.mem_cons_of_mem _ (List.mem_append_right _ h)
theorem hyV_X9_weightBy : yX9_weightBy.cls = RX9 ∧ yX9_weightBy.cls ≠ "java/lang/invoke/MethodHandle" ∧ yX9_weightBy.cls ≠ "java/lang/invoke/VarHandle" ∧ (parseMethodDescriptor yX9_weightBy.desc).map (fun d => d.parameters.length) = some 2 := by decide +kernel
theorem hyS_X9_weightBy : yX9_weightBy.cls ≠ "java/lang/invoke/MethodHandle" ∧ yX9_weightBy.cls ≠ "java/lang/invoke/VarHandle" ∧ (parseMethodDescriptor yX9_weightBy.desc).map (fun d => d.parameters.length) = some 2 := by decide +kernel
def f_X9_weightsBy_b37 (v_this_told : Nat → Int32) (k_5 : Int32 → Int32 → Int32 → Int32 → Option (Int32)) (x1 : Int32) (x2 : Int32) (x4 : Int32) (s0 : Int32) (s1 : Int32) : Option (Int32) := k_5 x1 x2 (s1 + s0) (x4 + 1)
def f_X9_weightsBy_s5 (v_this_told : Nat → Int32) (k_5 : Int32 → Int32 → Int32 → Int32 → Option (Int32)) (x1 : Int32) (x2 : Int32) (x3 : Int32) (x4 : Int32) : Option (Int32) := if (v_this_told 0) ≤ x4 then (some (x3)) else ((f_X9_has x1 x4).bind fun y1 => if y1 = 0 then (f_X9_weightsBy_b37 v_this_told k_5 x1 x2 x4 0 x3) else ((f_X9_weightBy v_this_told x4 x2).bind fun y3 => f_X9_weightsBy_b37 v_this_told k_5 x1 x2 x4 y3 x3))
def f_X9_weightsBy_b5 (v_this_told : Nat → Int32) (n : Nat) : Int32 → Int32 → Int32 → Int32 → Option (Int32) := it_ (f_X9_weightsBy_s5 v_this_told ) (fun _ _ _ _ => none) n
def f_X9_weightsBy (v_this_told : Nat → Int32) (x1 : Int32) (x2 : Int32) : Option (Int32) := f_X9_weightsBy_b5 v_this_told 5000 x1 x2 0 0
def w_X9_weightsBy (cyI cyZ cyW : ClassId) (a_this : Nat) (a_this_told : Nat) (a_this_st : Nat) (a_this_text : Nat) (v_this_letters : Int32) (v_this_place : Int32) (v_this_token : Int32) (v_this_value : Int32) (v_this_begins : Int32) (a_this_read : Nat) (v_this_clauses : Int32) (a_this_ahead : Nat) (v_this_undoMany : Int32) (a_this_isKept : Nat) (a_this_kept : Nat) (v_this_fewestMany : Int32) (v_this_fewestSets : Int32) (v_this_fewestSet : Int32) (v_this_fewestMost : Int32) (a_this_aside : Nat) (a_this_seens : Nat) (v_this_seenMany : Int32) (v_this_told : Nat → Int32) : va_W := [(a_this, .inr (9, [.ref a_this_told, .ref a_this_st, .ref a_this_text, .int v_this_letters, .int v_this_place, .int v_this_token, .int v_this_value, .int v_this_begins, .ref a_this_read, .int v_this_clauses, .ref a_this_ahead, .int v_this_undoMany, .ref a_this_isKept, .ref a_this_kept, .int v_this_fewestMany, .int v_this_fewestSets, .int v_this_fewestSet, .int v_this_fewestMost, .ref a_this_aside, .ref a_this_seens, .int v_this_seenMany])), (a_this_told, .inl (cyI, 37, .inl v_this_told))]
set_option maxHeartbeats 4000000 in
set_option maxRecDepth 100000 in
theorem c_X9_weightsBy (l : Launch) (D : va_G) (cyI cyZ cyW : ClassId) (a_this : Nat) (a_this_told : Nat) (a_this_st : Nat) (a_this_text : Nat) (v_this_letters : Int32) (v_this_place : Int32) (v_this_token : Int32) (v_this_value : Int32) (v_this_begins : Int32) (a_this_read : Nat) (v_this_clauses : Int32) (a_this_ahead : Nat) (v_this_undoMany : Int32) (a_this_isKept : Nat) (a_this_kept : Nat) (v_this_fewestMany : Int32) (v_this_fewestSets : Int32) (v_this_fewestSet : Int32) (v_this_fewestMost : Int32) (a_this_aside : Nat) (a_this_seens : Nat) (v_this_seenMany : Int32) (v_this_told : Nat → Int32) (x1 : Int32) (x2 : Int32) (res : Int32) (hf : f_X9_weightsBy v_this_told x1 x2 = some res) : ∀ sz, Met l yX9_weightsBy wsX9_weightsBy { frames := 1, cells := 0, slots := 0, locals := 23 } (PCx D (tyG cyI cyZ cyW) [.ref a_this, .int x1, .int x2] (w_X9_weightsBy cyI cyZ cyW a_this a_this_told a_this_st a_this_text v_this_letters v_this_place v_this_token v_this_value v_this_begins a_this_read v_this_clauses a_this_ahead v_this_undoMany a_this_isKept a_this_kept v_this_fewestMany v_this_fewestSets v_this_fewestSet v_this_fewestMost a_this_aside a_this_seens v_this_seenMany v_this_told) sz) (QI D (tyG cyI cyZ cyW) (w_X9_weightsBy cyI cyZ cyW a_this a_this_told a_this_st a_this_text v_this_letters v_this_place v_this_token v_this_value v_this_begins a_this_read v_this_clauses a_this_ahead v_this_undoMany a_this_isKept a_this_kept v_this_fewestMany v_this_fewestSets v_this_fewestSet v_this_fewestMost a_this_aside a_this_seens v_this_seenMany v_this_told) sz res (w_X9_weightsBy cyI cyZ cyW a_this a_this_told a_this_st a_this_text v_this_letters v_this_place v_this_token v_this_value v_this_begins a_this_read v_this_clauses a_this_ahead v_this_undoMany a_this_isKept a_this_kept v_this_fewestMany v_this_fewestSets v_this_fewestSet v_this_fewestMost a_this_aside a_this_seens v_this_seenMany v_this_told)) 0 0 (va_A (w_X9_weightsBy cyI cyZ cyW a_this a_this_told a_this_st a_this_text v_this_letters v_this_place v_this_token v_this_value v_this_begins a_this_read v_this_clauses a_this_ahead v_this_undoMany a_this_isKept a_this_kept v_this_fewestMany v_this_fewestSets v_this_fewestSet v_this_fewestMost a_this_aside a_this_seens v_this_seenMany v_this_told) sz) := by
  intro sz
  refine met_of (cc := cX9_weightsBy) (maxL := 5) (ret := (some .int)) (lv0 := [(0, .ref a_this), (1, .int x1), (2, .int x2)]) (by decide) rfl ⟨(Nat.le_of_ble_eq_true rfl), rfl⟩ ?_
  intro p e s m below meth c C hr hlk hnm hsz
  subst hsz
  have C : CX p s m _ c 5 cX9_weightsBy RX9 wsX9_weightsBy D (tyG cyI cyZ cyW) _ := C
  obtain ⟨Z, hZ⟩ : ∃ Z : va_W → Nat → LV → List Value → Prop, Z = ST p l e { frames := 1, cells := 0, slots := 0, locals := 23 } s m [.ref a_this, .int x1, .int x2].toArray below meth c 5 D (va_A (w_X9_weightsBy cyI cyZ cyW a_this a_this_told a_this_st a_this_text v_this_letters v_this_place v_this_token v_this_value v_this_begins a_this_read v_this_clauses a_this_ahead v_this_undoMany a_this_isKept a_this_kept v_this_fewestMany v_this_fewestSets v_this_fewestSet v_this_fewestMost a_this_aside a_this_seens v_this_seenMany v_this_told) s.heap.size) (MQ below (QI D (tyG cyI cyZ cyW) (w_X9_weightsBy cyI cyZ cyW a_this a_this_told a_this_st a_this_text v_this_letters v_this_place v_this_token v_this_value v_this_begins a_this_read v_this_clauses a_this_ahead v_this_undoMany a_this_isKept a_this_kept v_this_fewestMany v_this_fewestSets v_this_fewestSet v_this_fewestMost a_this_aside a_this_seens v_this_seenMany v_this_told) s.heap.size res (w_X9_weightsBy cyI cyZ cyW a_this a_this_told a_this_st a_this_text v_this_letters v_this_place v_this_token v_this_value v_this_begins a_this_read v_this_clauses a_this_ahead v_this_undoMany a_this_isKept a_this_kept v_this_fewestMany v_this_fewestSets v_this_fewestSet v_this_fewestMost a_this_aside a_this_seens v_this_seenMany v_this_told)) [.ref a_this, .int x1, .int x2].toArray s 0 0 (va_A (w_X9_weightsBy cyI cyZ cyW a_this a_this_told a_this_st a_this_text v_this_letters v_this_place v_this_token v_this_value v_this_begins a_this_read v_this_clauses a_this_ahead v_this_undoMany a_this_isKept a_this_kept v_this_fewestMany v_this_fewestSets v_this_fewestSet v_this_fewestMost a_this_aside a_this_seens v_this_seenMany v_this_told) s.heap.size)) 0 0 := ⟨_, rfl⟩
  have hb_37 : ∀ (k_5 : Int32 → Int32 → Int32 → Int32 → Option (Int32)), (∀ (x1 : Int32) (x2 : Int32) (x3 : Int32) (x4 : Int32), k_5 x1 x2 x3 x4 = some res → Z (w_X9_weightsBy cyI cyZ cyW a_this a_this_told a_this_st a_this_text v_this_letters v_this_place v_this_token v_this_value v_this_begins a_this_read v_this_clauses a_this_ahead v_this_undoMany a_this_isKept a_this_kept v_this_fewestMany v_this_fewestSets v_this_fewestSet v_this_fewestMost a_this_aside a_this_seens v_this_seenMany v_this_told) 5 [(0, .ref a_this), (1, .int x1), (2, .int x2), (3, .int x3), (4, .int x4)] []) → ∀ (x1 : Int32) (x2 : Int32) (x4 : Int32) (s0 : Int32) (s1 : Int32), f_X9_weightsBy_b37 v_this_told k_5 x1 x2 x4 s0 s1 = some res → Z (w_X9_weightsBy cyI cyZ cyW a_this a_this_told a_this_st a_this_text v_this_letters v_this_place v_this_token v_this_value v_this_begins a_this_read v_this_clauses a_this_ahead v_this_undoMany a_this_isKept a_this_kept v_this_fewestMany v_this_fewestSets v_this_fewestSet v_this_fewestMost a_this_aside a_this_seens v_this_seenMany v_this_told) 37 [(0, .ref a_this), (1, .int x1), (2, .int x2), (4, .int x4)] [.int s0, .int s1] := by
    subst hZ
    intro k_5 hk_5 x1 x2 x4 s0 s1 hf
    refine r_iadd C dX9_weightsBy_37 ?_
    refine r_istore_n (lv' := [(3, .int (s1 + s0)), (0, .ref a_this), (1, .int x1), (2, .int x2), (4, .int x4)]) C dX9_weightsBy_38 rfl (by decide) rfl ?_
    refine r_iinc (v := 1) (k := 4) (lv' := [(4, .int (x4 + 1)), (3, .int (s1 + s0)), (0, .ref a_this), (1, .int x1), (2, .int x2)]) C dX9_weightsBy_39 rfl (by decide) (by decide) rfl ?_
    refine r_goto C 5 dX9_weightsBy_42 (by decide) ?_
    exact ST_lv [2, 3, 4, 1, 0] rfl (hk_5 x1 x2 (s1 + s0) (x4 + 1) hf)
  have hs_5 : ∀ (k_5 : Int32 → Int32 → Int32 → Int32 → Option (Int32)), (∀ (x1 : Int32) (x2 : Int32) (x3 : Int32) (x4 : Int32), k_5 x1 x2 x3 x4 = some res → Z (w_X9_weightsBy cyI cyZ cyW a_this a_this_told a_this_st a_this_text v_this_letters v_this_place v_this_token v_this_value v_this_begins a_this_read v_this_clauses a_this_ahead v_this_undoMany a_this_isKept a_this_kept v_this_fewestMany v_this_fewestSets v_this_fewestSet v_this_fewestMost a_this_aside a_this_seens v_this_seenMany v_this_told) 5 [(0, .ref a_this), (1, .int x1), (2, .int x2), (3, .int x3), (4, .int x4)] []) → ∀ (x1 : Int32) (x2 : Int32) (x3 : Int32) (x4 : Int32), f_X9_weightsBy_s5 v_this_told k_5 x1 x2 x3 x4 = some res → Z (w_X9_weightsBy cyI cyZ cyW a_this a_this_told a_this_st a_this_text v_this_letters v_this_place v_this_token v_this_value v_this_begins a_this_read v_this_clauses a_this_ahead v_this_undoMany a_this_isKept a_this_kept v_this_fewestMany v_this_fewestSets v_this_fewestSet v_this_fewestMost a_this_aside a_this_seens v_this_seenMany v_this_told) 5 [(0, .ref a_this), (1, .int x1), (2, .int x2), (3, .int x3), (4, .int x4)] [] := by
    subst hZ
    intro k_5 hk_5 x1 x2 x3 x4 hf
    refine r_iload C dX9_weightsBy_5 4 rfl ?_
    refine r_aload_n C dX9_weightsBy_7 rfl 0 rfl ?_
    refine r_get C in_X9_weightsBy_X9 0 rfl rfl 0 (by decide) lk_X9_weightsBy_1 rfl rfl dX9_weightsBy_8 ?_
    refine r_iconst C 0 dX9_weightsBy_11 (by decide) ?_
    refine r_iald_k C 0 1 0 rfl rfl (kk_ 0 37 (by decide) (by decide)) dX9_weightsBy_12 ?_
    refine r_icmp_ge C 45 dX9_weightsBy_13 (by decide) hf (fun hf => ?_) (fun hf => ?_)
    · refine r_iload_n C dX9_weightsBy_45 rfl 3 rfl ?_
      rw [← Option.some.inj hf]
      exact r_iret C hr hlk dX9_weightsBy_46
    · refine r_iload_n C dX9_weightsBy_16 rfl 3 rfl ?_
      refine r_iload_n C dX9_weightsBy_17 rfl 1 rfl ?_
      refine r_iload C dX9_weightsBy_18 4 rfl ?_
      obtain ⟨y1, hy2, hf⟩ := bd_some hf
      refine r_roS_i (As := [.int x1, .int x4]) (rest := [.int x3]) C (c_X9_has l D cyI cyZ cyW x1 x4 y1 hy2) gX9_weightsBy_X9_has rfl hyS_X9_has ⟨rfl, rfl, (Nat.le_of_ble_eq_true rfl), (Nat.le_of_ble_eq_true rfl)⟩ rfl [] rfl rfl rfl (Nat.le_of_ble_eq_true rfl) ⟨Nat.zero_le _, Nat.zero_le _⟩ dX9_weightsBy_20 ?_
      refine r_if_eq C 36 dX9_weightsBy_23 (by decide) hf (fun hf => ?_) (fun hf => ?_)
      · refine r_iconst C 0 dX9_weightsBy_36 (by decide) ?_
        exact ST_lv [0, 1, 2, 4] rfl (hb_37 k_5 hk_5 x1 x2 x4 0 x3 hf)
      · refine r_aload_n C dX9_weightsBy_26 rfl 0 rfl ?_
        refine r_iload C dX9_weightsBy_27 4 rfl ?_
        refine r_iload_n C dX9_weightsBy_29 rfl 2 rfl ?_
        obtain ⟨y3, hy4, hf⟩ := bd_some hf
        refine r_roV_i (As := [.int x4, .int x2]) (rest := [.int x3]) C (c_X9_weightBy l D cyI cyZ cyW a_this a_this_told a_this_st a_this_text v_this_letters v_this_place v_this_token v_this_value v_this_begins a_this_read v_this_clauses a_this_ahead v_this_undoMany a_this_isKept a_this_kept v_this_fewestMany v_this_fewestSets v_this_fewestSet v_this_fewestMost a_this_aside a_this_seens v_this_seenMany v_this_told x4 x2 y3 hy4) gX9_weightsBy_X9_weightBy rfl hyV_X9_weightBy ⟨rfl, rfl, (Nat.le_of_ble_eq_true rfl), (Nat.le_of_ble_eq_true rfl)⟩ rfl 0 rfl rfl [0, 1] rfl rfl rfl (Nat.le_of_ble_eq_true rfl) ⟨Nat.zero_le _, Nat.zero_le _⟩ dX9_weightsBy_30 ?_
        refine r_goto C 37 dX9_weightsBy_33 (by decide) ?_
        exact ST_lv [0, 1, 2, 4] rfl (hb_37 k_5 hk_5 x1 x2 x4 y3 x3 hf)
  have hb_5 : ∀ (n : Nat) (x1 : Int32) (x2 : Int32) (x3 : Int32) (x4 : Int32), f_X9_weightsBy_b5 v_this_told n x1 x2 x3 x4 = some res → Z (w_X9_weightsBy cyI cyZ cyW a_this a_this_told a_this_st a_this_text v_this_letters v_this_place v_this_token v_this_value v_this_begins a_this_read v_this_clauses a_this_ahead v_this_undoMany a_this_isKept a_this_kept v_this_fewestMany v_this_fewestSets v_this_fewestSet v_this_fewestMost a_this_aside a_this_seens v_this_seenMany v_this_told) 5 [(0, .ref a_this), (1, .int x1), (2, .int x2), (3, .int x3), (4, .int x4)] [] := by
    intro  n
    induction n with
    | zero => intro x1 x2 x3 x4 hf; exact nn_ hf
    | succ n ih => exact fun x1 x2 x3 x4 hf => hs_5 _ ih x1 x2 x3 x4 hf
  subst hZ
  refine r_iconst C 0 dX9_weightsBy_0 (by decide) ?_
  refine r_istore_n (lv' := [(3, .int 0), (0, .ref a_this), (1, .int x1), (2, .int x2)]) C dX9_weightsBy_1 rfl (by decide) rfl ?_
  refine r_iconst C 0 dX9_weightsBy_2 (by decide) ?_
  refine r_istore (lv' := [(4, .int 0), (3, .int 0), (0, .ref a_this), (1, .int x1), (2, .int x2)]) C dX9_weightsBy_3 (by decide) rfl ?_
  exact ST_lv [2, 3, 4, 1, 0] rfl (hb_5 5000 x1 x2 0 0 hf)

theorem lk_X9_isNight_1 : Cond.fieldLink RX9 13 "ParishCoatModel" "st" "[I" ∈ wsX9_isNight := List.mem_of_getElem? (i := 1) rfl
theorem in_X9_isNight_X9 : ∀ w ∈ u_ws RX9 TX9 21, w ∈ wsX9_isNight := fun _ h => List.mem_cons_of_mem _ (List.mem_append_right _ h)
def f_X9_isNight (v_this_st : Nat → Int32) : Option (Int32) := if ((v_this_st 14) - (v_this_st 14) / 2 * 2) = 1 then (some (1)) else (some (0))
def w_X9_isNight (cyI cyZ cyW : ClassId) (a_this : Nat) (a_this_told : Nat) (a_this_st : Nat) (a_this_text : Nat) (v_this_letters : Int32) (v_this_place : Int32) (v_this_token : Int32) (v_this_value : Int32) (v_this_begins : Int32) (a_this_read : Nat) (v_this_clauses : Int32) (a_this_ahead : Nat) (v_this_undoMany : Int32) (a_this_isKept : Nat) (a_this_kept : Nat) (v_this_fewestMany : Int32) (v_this_fewestSets : Int32) (v_this_fewestSet : Int32) (v_this_fewestMost : Int32) (a_this_aside : Nat) (a_this_seens : Nat) (v_this_seenMany : Int32) (v_this_st : Nat → Int32) : va_W := [(a_this, .inr (9, [.ref a_this_told, .ref a_this_st, .ref a_this_text, .int v_this_letters, .int v_this_place, .int v_this_token, .int v_this_value, .int v_this_begins, .ref a_this_read, .int v_this_clauses, .ref a_this_ahead, .int v_this_undoMany, .ref a_this_isKept, .ref a_this_kept, .int v_this_fewestMany, .int v_this_fewestSets, .int v_this_fewestSet, .int v_this_fewestMost, .ref a_this_aside, .ref a_this_seens, .int v_this_seenMany])), (a_this_st, .inl (cyI, 15, .inl v_this_st))]
set_option maxHeartbeats 4000000 in
set_option maxRecDepth 100000 in
theorem c_X9_isNight (l : Launch) (D : va_G) (cyI cyZ cyW : ClassId) (a_this : Nat) (a_this_told : Nat) (a_this_st : Nat) (a_this_text : Nat) (v_this_letters : Int32) (v_this_place : Int32) (v_this_token : Int32) (v_this_value : Int32) (v_this_begins : Int32) (a_this_read : Nat) (v_this_clauses : Int32) (a_this_ahead : Nat) (v_this_undoMany : Int32) (a_this_isKept : Nat) (a_this_kept : Nat) (v_this_fewestMany : Int32) (v_this_fewestSets : Int32) (v_this_fewestSet : Int32) (v_this_fewestMost : Int32) (a_this_aside : Nat) (a_this_seens : Nat) (v_this_seenMany : Int32) (v_this_st : Nat → Int32) (res : Int32) (hf : f_X9_isNight v_this_st = some res) : ∀ sz, Met l yX9_isNight wsX9_isNight { frames := 0, cells := 0, slots := 0, locals := 0 } (PCx D (tyG cyI cyZ cyW) [.ref a_this] (w_X9_isNight cyI cyZ cyW a_this a_this_told a_this_st a_this_text v_this_letters v_this_place v_this_token v_this_value v_this_begins a_this_read v_this_clauses a_this_ahead v_this_undoMany a_this_isKept a_this_kept v_this_fewestMany v_this_fewestSets v_this_fewestSet v_this_fewestMost a_this_aside a_this_seens v_this_seenMany v_this_st) sz) (QI D (tyG cyI cyZ cyW) (w_X9_isNight cyI cyZ cyW a_this a_this_told a_this_st a_this_text v_this_letters v_this_place v_this_token v_this_value v_this_begins a_this_read v_this_clauses a_this_ahead v_this_undoMany a_this_isKept a_this_kept v_this_fewestMany v_this_fewestSets v_this_fewestSet v_this_fewestMost a_this_aside a_this_seens v_this_seenMany v_this_st) sz res (w_X9_isNight cyI cyZ cyW a_this a_this_told a_this_st a_this_text v_this_letters v_this_place v_this_token v_this_value v_this_begins a_this_read v_this_clauses a_this_ahead v_this_undoMany a_this_isKept a_this_kept v_this_fewestMany v_this_fewestSets v_this_fewestSet v_this_fewestMost a_this_aside a_this_seens v_this_seenMany v_this_st)) 0 0 (va_A (w_X9_isNight cyI cyZ cyW a_this a_this_told a_this_st a_this_text v_this_letters v_this_place v_this_token v_this_value v_this_begins a_this_read v_this_clauses a_this_ahead v_this_undoMany a_this_isKept a_this_kept v_this_fewestMany v_this_fewestSets v_this_fewestSet v_this_fewestMost a_this_aside a_this_seens v_this_seenMany v_this_st) sz) := by
  intro sz
  refine met_of (cc := cX9_isNight) (maxL := 1) (ret := (some .boolean)) (lv0 := [(0, .ref a_this)]) (by decide) rfl ⟨(Nat.le_of_ble_eq_true rfl), rfl⟩ ?_
  intro p e s m below meth c C hr hlk hnm hsz
  subst hsz
  have C : CX p s m _ c 1 cX9_isNight RX9 wsX9_isNight D (tyG cyI cyZ cyW) _ := C
  refine r_aload_n C dX9_isNight_0 rfl 0 rfl ?_
  refine r_get C in_X9_isNight_X9 0 rfl rfl 1 (by decide) lk_X9_isNight_1 rfl rfl dX9_isNight_1 ?_
  refine r_bipush C 14 dX9_isNight_4 (by decide) ?_
  refine r_iald_k C 14 1 0 rfl rfl (kk_ 14 15 (by decide) (by decide)) dX9_isNight_6 ?_
  refine r_iconst C 2 dX9_isNight_7 (by decide) ?_
  refine r_irem C dX9_isNight_8 (by decide) ?_
  refine r_iconst C 1 dX9_isNight_9 (by decide) ?_
  refine r_icmp_ne C 17 dX9_isNight_10 (by decide) hf (fun hf => ?_) (fun hf => ?_)
  · refine r_iconst C 0 dX9_isNight_17 (by decide) ?_
    rw [← Option.some.inj hf]
    exact r_zret (r := 0) C hr hlk rfl dX9_isNight_18
  · refine r_iconst C 1 dX9_isNight_13 (by decide) ?_
    refine r_goto C 18 dX9_isNight_14 (by decide) ?_
    rw [← Option.some.inj hf]
    exact r_zret (r := 1) C hr hlk rfl dX9_isNight_18

theorem hyV_X9_isNight : yX9_isNight.cls = RX9 ∧ yX9_isNight.cls ≠ "java/lang/invoke/MethodHandle" ∧ yX9_isNight.cls ≠ "java/lang/invoke/VarHandle" ∧ (parseMethodDescriptor yX9_isNight.desc).map (fun d => d.parameters.length) = some 0 := by decide +kernel
theorem hyS_X9_isNight : yX9_isNight.cls ≠ "java/lang/invoke/MethodHandle" ∧ yX9_isNight.cls ≠ "java/lang/invoke/VarHandle" ∧ (parseMethodDescriptor yX9_isNight.desc).map (fun d => d.parameters.length) = some 0 := by decide +kernel
theorem hyV_X9_weightsBy : yX9_weightsBy.cls = RX9 ∧ yX9_weightsBy.cls ≠ "java/lang/invoke/MethodHandle" ∧ yX9_weightsBy.cls ≠ "java/lang/invoke/VarHandle" ∧ (parseMethodDescriptor yX9_weightsBy.desc).map (fun d => d.parameters.length) = some 2 := by decide +kernel
theorem hyS_X9_weightsBy : yX9_weightsBy.cls ≠ "java/lang/invoke/MethodHandle" ∧ yX9_weightsBy.cls ≠ "java/lang/invoke/VarHandle" ∧ (parseMethodDescriptor yX9_weightsBy.desc).map (fun d => d.parameters.length) = some 2 := by decide +kernel
def f_X9_weights (v_this_st : Nat → Int32) (v_this_told : Nat → Int32) (x1 : Int32) : Option (Int32) := (f_X9_isNight v_this_st).bind fun y1 => (f_X9_weightsBy v_this_told x1 y1).bind fun y3 => some (y3)
def w_X9_weights (cyI cyZ cyW : ClassId) (a_this : Nat) (a_this_told : Nat) (a_this_st : Nat) (a_this_text : Nat) (v_this_letters : Int32) (v_this_place : Int32) (v_this_token : Int32) (v_this_value : Int32) (v_this_begins : Int32) (a_this_read : Nat) (v_this_clauses : Int32) (a_this_ahead : Nat) (v_this_undoMany : Int32) (a_this_isKept : Nat) (a_this_kept : Nat) (v_this_fewestMany : Int32) (v_this_fewestSets : Int32) (v_this_fewestSet : Int32) (v_this_fewestMost : Int32) (a_this_aside : Nat) (a_this_seens : Nat) (v_this_seenMany : Int32) (v_this_st : Nat → Int32) (v_this_told : Nat → Int32) : va_W := [(a_this, .inr (9, [.ref a_this_told, .ref a_this_st, .ref a_this_text, .int v_this_letters, .int v_this_place, .int v_this_token, .int v_this_value, .int v_this_begins, .ref a_this_read, .int v_this_clauses, .ref a_this_ahead, .int v_this_undoMany, .ref a_this_isKept, .ref a_this_kept, .int v_this_fewestMany, .int v_this_fewestSets, .int v_this_fewestSet, .int v_this_fewestMost, .ref a_this_aside, .ref a_this_seens, .int v_this_seenMany])), (a_this_st, .inl (cyI, 15, .inl v_this_st)), (a_this_told, .inl (cyI, 37, .inl v_this_told))]
set_option maxHeartbeats 4000000 in
set_option maxRecDepth 100000 in
theorem c_X9_weights (l : Launch) (D : va_G) (cyI cyZ cyW : ClassId) (a_this : Nat) (a_this_told : Nat) (a_this_st : Nat) (a_this_text : Nat) (v_this_letters : Int32) (v_this_place : Int32) (v_this_token : Int32) (v_this_value : Int32) (v_this_begins : Int32) (a_this_read : Nat) (v_this_clauses : Int32) (a_this_ahead : Nat) (v_this_undoMany : Int32) (a_this_isKept : Nat) (a_this_kept : Nat) (v_this_fewestMany : Int32) (v_this_fewestSets : Int32) (v_this_fewestSet : Int32) (v_this_fewestMost : Int32) (a_this_aside : Nat) (a_this_seens : Nat) (v_this_seenMany : Int32) (v_this_st : Nat → Int32) (v_this_told : Nat → Int32) (x1 : Int32) (res : Int32) (hf : f_X9_weights v_this_st v_this_told x1 = some res) : ∀ sz, Met l yX9_weights wsX9_weights { frames := 2, cells := 0, slots := 0, locals := 47 } (PCx D (tyG cyI cyZ cyW) [.ref a_this, .int x1] (w_X9_weights cyI cyZ cyW a_this a_this_told a_this_st a_this_text v_this_letters v_this_place v_this_token v_this_value v_this_begins a_this_read v_this_clauses a_this_ahead v_this_undoMany a_this_isKept a_this_kept v_this_fewestMany v_this_fewestSets v_this_fewestSet v_this_fewestMost a_this_aside a_this_seens v_this_seenMany v_this_st v_this_told) sz) (QI D (tyG cyI cyZ cyW) (w_X9_weights cyI cyZ cyW a_this a_this_told a_this_st a_this_text v_this_letters v_this_place v_this_token v_this_value v_this_begins a_this_read v_this_clauses a_this_ahead v_this_undoMany a_this_isKept a_this_kept v_this_fewestMany v_this_fewestSets v_this_fewestSet v_this_fewestMost a_this_aside a_this_seens v_this_seenMany v_this_st v_this_told) sz res (w_X9_weights cyI cyZ cyW a_this a_this_told a_this_st a_this_text v_this_letters v_this_place v_this_token v_this_value v_this_begins a_this_read v_this_clauses a_this_ahead v_this_undoMany a_this_isKept a_this_kept v_this_fewestMany v_this_fewestSets v_this_fewestSet v_this_fewestMost a_this_aside a_this_seens v_this_seenMany v_this_st v_this_told)) 0 0 (va_A (w_X9_weights cyI cyZ cyW a_this a_this_told a_this_st a_this_text v_this_letters v_this_place v_this_token v_this_value v_this_begins a_this_read v_this_clauses a_this_ahead v_this_undoMany a_this_isKept a_this_kept v_this_fewestMany v_this_fewestSets v_this_fewestSet v_this_fewestMost a_this_aside a_this_seens v_this_seenMany v_this_st v_this_told) sz) := by
  intro sz
  refine met_of (cc := cX9_weights) (maxL := 2) (ret := (some .int)) (lv0 := [(0, .ref a_this), (1, .int x1)]) (by decide) rfl ⟨(Nat.le_of_ble_eq_true rfl), rfl⟩ ?_
  intro p e s m below meth c C hr hlk hnm hsz
  subst hsz
  have C : CX p s m _ c 2 cX9_weights RX9 wsX9_weights D (tyG cyI cyZ cyW) _ := C
  refine r_aload_n C dX9_weights_0 rfl 0 rfl ?_
  refine r_iload_n C dX9_weights_1 rfl 1 rfl ?_
  refine r_aload_n C dX9_weights_2 rfl 0 rfl ?_
  obtain ⟨y1, hy2, hf⟩ := bd_some hf
  refine r_roV_i (As := []) (rest := [.int x1, .ref a_this]) C (c_X9_isNight l D cyI cyZ cyW a_this a_this_told a_this_st a_this_text v_this_letters v_this_place v_this_token v_this_value v_this_begins a_this_read v_this_clauses a_this_ahead v_this_undoMany a_this_isKept a_this_kept v_this_fewestMany v_this_fewestSets v_this_fewestSet v_this_fewestMost a_this_aside a_this_seens v_this_seenMany v_this_st y1 hy2) gX9_weights_X9_isNight rfl hyV_X9_isNight ⟨rfl, rfl, (Nat.le_of_ble_eq_true rfl), (Nat.le_of_ble_eq_true rfl)⟩ rfl 0 rfl rfl [0, 1] rfl rfl rfl (Nat.le_of_ble_eq_true rfl) ⟨Nat.zero_le _, Nat.zero_le _⟩ dX9_weights_3 ?_
  obtain ⟨y3, hy4, hf⟩ := bd_some hf
  refine r_roV_i (As := [.int x1, .int y1]) (rest := []) C (c_X9_weightsBy l D cyI cyZ cyW a_this a_this_told a_this_st a_this_text v_this_letters v_this_place v_this_token v_this_value v_this_begins a_this_read v_this_clauses a_this_ahead v_this_undoMany a_this_isKept a_this_kept v_this_fewestMany v_this_fewestSets v_this_fewestSet v_this_fewestMost a_this_aside a_this_seens v_this_seenMany v_this_told x1 y1 y3 hy4) gX9_weights_X9_weightsBy rfl hyV_X9_weightsBy ⟨rfl, rfl, (Nat.le_of_ble_eq_true rfl), (Nat.le_of_ble_eq_true rfl)⟩ rfl 0 rfl rfl [0, 2] rfl rfl rfl (Nat.le_of_ble_eq_true rfl) ⟨Nat.zero_le _, Nat.zero_le _⟩ dX9_weights_6 ?_
  rw [← Option.some.inj hf]
  exact r_iret C hr hlk dX9_weights_9

theorem lk_X9_favouring_1 : Cond.fieldLink RX9 7 "ParishCoatModel" "told" "[I" ∈ wsX9_favouring := List.mem_of_getElem? (i := 1) rfl
theorem lk_X9_favouring_2 : Cond.fieldLink RX9 13 "ParishCoatModel" "st" "[I" ∈ wsX9_favouring := List.mem_of_getElem? (i := 2) rfl
theorem in_X9_favouring_X9 : ∀ w ∈ u_ws RX9 TX9 21, w ∈ wsX9_favouring := fun _ h => List.mem_cons_of_mem _ (List.mem_append_right _ h)
def f_X9_favouring_b38 (v_this_told : Nat → Int32) (v_this_st : Nat → Int32) (k_4 : Int32 → Int32 → Int32 → Option (Int32)) (x1 : Int32) (x3 : Int32) (s0 : Int32) (s1 : Int32) : Option (Int32) := k_4 x1 (s1 ||| s0) (x3 + 1)
def f_X9_favouring_s4 (v_this_told : Nat → Int32) (v_this_st : Nat → Int32) (k_4 : Int32 → Int32 → Int32 → Option (Int32)) (x1 : Int32) (x2 : Int32) (x3 : Int32) : Option (Int32) := if (v_this_told 0) ≤ x3 then (some (x2)) else (gd_ (7 + x3) 15 ((f_X9_has (v_this_st (Int32.toNatClampNeg (7 + x3))) x1).bind fun y2 => if y2 = 0 then (f_X9_favouring_b38 v_this_told v_this_st k_4 x1 x3 0 x2) else (f_X9_favouring_b38 v_this_told v_this_st k_4 x1 x3 ((1 : Int32) <<< (x3 &&& 31)) x2)))
def f_X9_favouring_b4 (v_this_told : Nat → Int32) (v_this_st : Nat → Int32) (n : Nat) : Int32 → Int32 → Int32 → Option (Int32) := it_ (f_X9_favouring_s4 v_this_told v_this_st ) (fun _ _ _ => none) n
def f_X9_favouring (v_this_told : Nat → Int32) (v_this_st : Nat → Int32) (x1 : Int32) : Option (Int32) := f_X9_favouring_b4 v_this_told v_this_st 5000 x1 0 0
def w_X9_favouring (cyI cyZ cyW : ClassId) (a_this : Nat) (a_this_told : Nat) (a_this_st : Nat) (a_this_text : Nat) (v_this_letters : Int32) (v_this_place : Int32) (v_this_token : Int32) (v_this_value : Int32) (v_this_begins : Int32) (a_this_read : Nat) (v_this_clauses : Int32) (a_this_ahead : Nat) (v_this_undoMany : Int32) (a_this_isKept : Nat) (a_this_kept : Nat) (v_this_fewestMany : Int32) (v_this_fewestSets : Int32) (v_this_fewestSet : Int32) (v_this_fewestMost : Int32) (a_this_aside : Nat) (a_this_seens : Nat) (v_this_seenMany : Int32) (v_this_told : Nat → Int32) (v_this_st : Nat → Int32) : va_W := [(a_this, .inr (9, [.ref a_this_told, .ref a_this_st, .ref a_this_text, .int v_this_letters, .int v_this_place, .int v_this_token, .int v_this_value, .int v_this_begins, .ref a_this_read, .int v_this_clauses, .ref a_this_ahead, .int v_this_undoMany, .ref a_this_isKept, .ref a_this_kept, .int v_this_fewestMany, .int v_this_fewestSets, .int v_this_fewestSet, .int v_this_fewestMost, .ref a_this_aside, .ref a_this_seens, .int v_this_seenMany])), (a_this_told, .inl (cyI, 37, .inl v_this_told)), (a_this_st, .inl (cyI, 15, .inl v_this_st))]
set_option maxHeartbeats 4000000 in
set_option maxRecDepth 100000 in
theorem c_X9_favouring (l : Launch) (D : va_G) (cyI cyZ cyW : ClassId) (a_this : Nat) (a_this_told : Nat) (a_this_st : Nat) (a_this_text : Nat) (v_this_letters : Int32) (v_this_place : Int32) (v_this_token : Int32) (v_this_value : Int32) (v_this_begins : Int32) (a_this_read : Nat) (v_this_clauses : Int32) (a_this_ahead : Nat) (v_this_undoMany : Int32) (a_this_isKept : Nat) (a_this_kept : Nat) (v_this_fewestMany : Int32) (v_this_fewestSets : Int32) (v_this_fewestSet : Int32) (v_this_fewestMost : Int32) (a_this_aside : Nat) (a_this_seens : Nat) (v_this_seenMany : Int32) (v_this_told : Nat → Int32) (v_this_st : Nat → Int32) (x1 : Int32) (res : Int32) (hf : f_X9_favouring v_this_told v_this_st x1 = some res) : ∀ sz, Met l yX9_favouring wsX9_favouring { frames := 1, cells := 0, slots := 0, locals := 21 } (PCx D (tyG cyI cyZ cyW) [.ref a_this, .int x1] (w_X9_favouring cyI cyZ cyW a_this a_this_told a_this_st a_this_text v_this_letters v_this_place v_this_token v_this_value v_this_begins a_this_read v_this_clauses a_this_ahead v_this_undoMany a_this_isKept a_this_kept v_this_fewestMany v_this_fewestSets v_this_fewestSet v_this_fewestMost a_this_aside a_this_seens v_this_seenMany v_this_told v_this_st) sz) (QI D (tyG cyI cyZ cyW) (w_X9_favouring cyI cyZ cyW a_this a_this_told a_this_st a_this_text v_this_letters v_this_place v_this_token v_this_value v_this_begins a_this_read v_this_clauses a_this_ahead v_this_undoMany a_this_isKept a_this_kept v_this_fewestMany v_this_fewestSets v_this_fewestSet v_this_fewestMost a_this_aside a_this_seens v_this_seenMany v_this_told v_this_st) sz res (w_X9_favouring cyI cyZ cyW a_this a_this_told a_this_st a_this_text v_this_letters v_this_place v_this_token v_this_value v_this_begins a_this_read v_this_clauses a_this_ahead v_this_undoMany a_this_isKept a_this_kept v_this_fewestMany v_this_fewestSets v_this_fewestSet v_this_fewestMost a_this_aside a_this_seens v_this_seenMany v_this_told v_this_st)) 0 0 (va_A (w_X9_favouring cyI cyZ cyW a_this a_this_told a_this_st a_this_text v_this_letters v_this_place v_this_token v_this_value v_this_begins a_this_read v_this_clauses a_this_ahead v_this_undoMany a_this_isKept a_this_kept v_this_fewestMany v_this_fewestSets v_this_fewestSet v_this_fewestMost a_this_aside a_this_seens v_this_seenMany v_this_told v_this_st) sz) := by
  intro sz
  refine met_of (cc := cX9_favouring) (maxL := 4) (ret := (some .int)) (lv0 := [(0, .ref a_this), (1, .int x1)]) (by decide) rfl ⟨(Nat.le_of_ble_eq_true rfl), rfl⟩ ?_
  intro p e s m below meth c C hr hlk hnm hsz
  subst hsz
  have C : CX p s m _ c 4 cX9_favouring RX9 wsX9_favouring D (tyG cyI cyZ cyW) _ := C
  obtain ⟨Z, hZ⟩ : ∃ Z : va_W → Nat → LV → List Value → Prop, Z = ST p l e { frames := 1, cells := 0, slots := 0, locals := 21 } s m [.ref a_this, .int x1].toArray below meth c 4 D (va_A (w_X9_favouring cyI cyZ cyW a_this a_this_told a_this_st a_this_text v_this_letters v_this_place v_this_token v_this_value v_this_begins a_this_read v_this_clauses a_this_ahead v_this_undoMany a_this_isKept a_this_kept v_this_fewestMany v_this_fewestSets v_this_fewestSet v_this_fewestMost a_this_aside a_this_seens v_this_seenMany v_this_told v_this_st) s.heap.size) (MQ below (QI D (tyG cyI cyZ cyW) (w_X9_favouring cyI cyZ cyW a_this a_this_told a_this_st a_this_text v_this_letters v_this_place v_this_token v_this_value v_this_begins a_this_read v_this_clauses a_this_ahead v_this_undoMany a_this_isKept a_this_kept v_this_fewestMany v_this_fewestSets v_this_fewestSet v_this_fewestMost a_this_aside a_this_seens v_this_seenMany v_this_told v_this_st) s.heap.size res (w_X9_favouring cyI cyZ cyW a_this a_this_told a_this_st a_this_text v_this_letters v_this_place v_this_token v_this_value v_this_begins a_this_read v_this_clauses a_this_ahead v_this_undoMany a_this_isKept a_this_kept v_this_fewestMany v_this_fewestSets v_this_fewestSet v_this_fewestMost a_this_aside a_this_seens v_this_seenMany v_this_told v_this_st)) [.ref a_this, .int x1].toArray s 0 0 (va_A (w_X9_favouring cyI cyZ cyW a_this a_this_told a_this_st a_this_text v_this_letters v_this_place v_this_token v_this_value v_this_begins a_this_read v_this_clauses a_this_ahead v_this_undoMany a_this_isKept a_this_kept v_this_fewestMany v_this_fewestSets v_this_fewestSet v_this_fewestMost a_this_aside a_this_seens v_this_seenMany v_this_told v_this_st) s.heap.size)) 0 0 := ⟨_, rfl⟩
  have hb_38 : ∀ (k_4 : Int32 → Int32 → Int32 → Option (Int32)), (∀ (x1 : Int32) (x2 : Int32) (x3 : Int32), k_4 x1 x2 x3 = some res → Z (w_X9_favouring cyI cyZ cyW a_this a_this_told a_this_st a_this_text v_this_letters v_this_place v_this_token v_this_value v_this_begins a_this_read v_this_clauses a_this_ahead v_this_undoMany a_this_isKept a_this_kept v_this_fewestMany v_this_fewestSets v_this_fewestSet v_this_fewestMost a_this_aside a_this_seens v_this_seenMany v_this_told v_this_st) 4 [(0, .ref a_this), (1, .int x1), (2, .int x2), (3, .int x3)] []) → ∀ (x1 : Int32) (x3 : Int32) (s0 : Int32) (s1 : Int32), f_X9_favouring_b38 v_this_told v_this_st k_4 x1 x3 s0 s1 = some res → Z (w_X9_favouring cyI cyZ cyW a_this a_this_told a_this_st a_this_text v_this_letters v_this_place v_this_token v_this_value v_this_begins a_this_read v_this_clauses a_this_ahead v_this_undoMany a_this_isKept a_this_kept v_this_fewestMany v_this_fewestSets v_this_fewestSet v_this_fewestMost a_this_aside a_this_seens v_this_seenMany v_this_told v_this_st) 38 [(0, .ref a_this), (1, .int x1), (3, .int x3)] [.int s0, .int s1] := by
    subst hZ
    intro k_4 hk_4 x1 x3 s0 s1 hf
    refine r_ior C dX9_favouring_38 ?_
    refine r_istore_n (lv' := [(2, .int (s1 ||| s0)), (0, .ref a_this), (1, .int x1), (3, .int x3)]) C dX9_favouring_39 rfl (by decide) rfl ?_
    refine r_iinc (v := 1) (k := 3) (lv' := [(3, .int (x3 + 1)), (2, .int (s1 ||| s0)), (0, .ref a_this), (1, .int x1)]) C dX9_favouring_40 rfl (by decide) (by decide) rfl ?_
    refine r_goto C 4 dX9_favouring_43 (by decide) ?_
    exact ST_lv [2, 3, 1, 0] rfl (hk_4 x1 (s1 ||| s0) (x3 + 1) hf)
  have hs_4 : ∀ (k_4 : Int32 → Int32 → Int32 → Option (Int32)), (∀ (x1 : Int32) (x2 : Int32) (x3 : Int32), k_4 x1 x2 x3 = some res → Z (w_X9_favouring cyI cyZ cyW a_this a_this_told a_this_st a_this_text v_this_letters v_this_place v_this_token v_this_value v_this_begins a_this_read v_this_clauses a_this_ahead v_this_undoMany a_this_isKept a_this_kept v_this_fewestMany v_this_fewestSets v_this_fewestSet v_this_fewestMost a_this_aside a_this_seens v_this_seenMany v_this_told v_this_st) 4 [(0, .ref a_this), (1, .int x1), (2, .int x2), (3, .int x3)] []) → ∀ (x1 : Int32) (x2 : Int32) (x3 : Int32), f_X9_favouring_s4 v_this_told v_this_st k_4 x1 x2 x3 = some res → Z (w_X9_favouring cyI cyZ cyW a_this a_this_told a_this_st a_this_text v_this_letters v_this_place v_this_token v_this_value v_this_begins a_this_read v_this_clauses a_this_ahead v_this_undoMany a_this_isKept a_this_kept v_this_fewestMany v_this_fewestSets v_this_fewestSet v_this_fewestMost a_this_aside a_this_seens v_this_seenMany v_this_told v_this_st) 4 [(0, .ref a_this), (1, .int x1), (2, .int x2), (3, .int x3)] [] := by
    subst hZ
    intro k_4 hk_4 x1 x2 x3 hf
    refine r_iload_n C dX9_favouring_4 rfl 3 rfl ?_
    refine r_aload_n C dX9_favouring_5 rfl 0 rfl ?_
    refine r_get C in_X9_favouring_X9 0 rfl rfl 0 (by decide) lk_X9_favouring_1 rfl rfl dX9_favouring_6 ?_
    refine r_iconst C 0 dX9_favouring_9 (by decide) ?_
    refine r_iald_k C 0 1 0 rfl rfl (kk_ 0 37 (by decide) (by decide)) dX9_favouring_10 ?_
    refine r_icmp_ge C 46 dX9_favouring_11 (by decide) hf (fun hf => ?_) (fun hf => ?_)
    · refine r_iload_n C dX9_favouring_46 rfl 2 rfl ?_
      rw [← Option.some.inj hf]
      exact r_iret C hr hlk dX9_favouring_47
    · refine r_iload_n C dX9_favouring_14 rfl 2 rfl ?_
      refine r_aload_n C dX9_favouring_15 rfl 0 rfl ?_
      refine r_get C in_X9_favouring_X9 0 rfl rfl 1 (by decide) lk_X9_favouring_2 rfl rfl dX9_favouring_16 ?_
      refine r_bipush C 7 dX9_favouring_19 (by decide) ?_
      refine r_iload_n C dX9_favouring_21 rfl 3 rfl ?_
      refine r_iadd C dX9_favouring_22 ?_
      obtain ⟨hi1, hf⟩ := gd_some hf
      refine r_iald C 2 0 rfl rfl hi1 dX9_favouring_23 ?_
      refine r_iload_n C dX9_favouring_24 rfl 1 rfl ?_
      obtain ⟨y2, hy3, hf⟩ := bd_some hf
      refine r_roS_i (As := [.int (v_this_st (Int32.toNatClampNeg (7 + x3))), .int x1]) (rest := [.int x2]) C (c_X9_has l D cyI cyZ cyW (v_this_st (Int32.toNatClampNeg (7 + x3))) x1 y2 hy3) gX9_favouring_X9_has rfl hyS_X9_has ⟨rfl, rfl, (Nat.le_of_ble_eq_true rfl), (Nat.le_of_ble_eq_true rfl)⟩ rfl [] rfl rfl rfl (Nat.le_of_ble_eq_true rfl) ⟨Nat.zero_le _, Nat.zero_le _⟩ dX9_favouring_25 ?_
      refine r_if_eq C 37 dX9_favouring_28 (by decide) hf (fun hf => ?_) (fun hf => ?_)
      · refine r_iconst C 0 dX9_favouring_37 (by decide) ?_
        exact ST_lv [0, 1, 3] rfl (hb_38 k_4 hk_4 x1 x3 0 x2 hf)
      · refine r_iconst C 1 dX9_favouring_31 (by decide) ?_
        refine r_iload_n C dX9_favouring_32 rfl 3 rfl ?_
        refine r_ishl C dX9_favouring_33 ?_
        refine r_goto C 38 dX9_favouring_34 (by decide) ?_
        exact ST_lv [0, 1, 3] rfl (hb_38 k_4 hk_4 x1 x3 ((1 : Int32) <<< (x3 &&& 31)) x2 hf)
  have hb_4 : ∀ (n : Nat) (x1 : Int32) (x2 : Int32) (x3 : Int32), f_X9_favouring_b4 v_this_told v_this_st n x1 x2 x3 = some res → Z (w_X9_favouring cyI cyZ cyW a_this a_this_told a_this_st a_this_text v_this_letters v_this_place v_this_token v_this_value v_this_begins a_this_read v_this_clauses a_this_ahead v_this_undoMany a_this_isKept a_this_kept v_this_fewestMany v_this_fewestSets v_this_fewestSet v_this_fewestMost a_this_aside a_this_seens v_this_seenMany v_this_told v_this_st) 4 [(0, .ref a_this), (1, .int x1), (2, .int x2), (3, .int x3)] [] := by
    intro  n
    induction n with
    | zero => intro x1 x2 x3 hf; exact nn_ hf
    | succ n ih => exact fun x1 x2 x3 hf => hs_4 _ ih x1 x2 x3 hf
  subst hZ
  refine r_iconst C 0 dX9_favouring_0 (by decide) ?_
  refine r_istore_n (lv' := [(2, .int 0), (0, .ref a_this), (1, .int x1)]) C dX9_favouring_1 rfl (by decide) rfl ?_
  refine r_iconst C 0 dX9_favouring_2 (by decide) ?_
  refine r_istore_n (lv' := [(3, .int 0), (2, .int 0), (0, .ref a_this), (1, .int x1)]) C dX9_favouring_3 rfl (by decide) rfl ?_
  exact ST_lv [2, 3, 1, 0] rfl (hb_4 5000 x1 0 0 hf)

theorem hyV_X9_favouring : yX9_favouring.cls = RX9 ∧ yX9_favouring.cls ≠ "java/lang/invoke/MethodHandle" ∧ yX9_favouring.cls ≠ "java/lang/invoke/VarHandle" ∧ (parseMethodDescriptor yX9_favouring.desc).map (fun d => d.parameters.length) = some 1 := by decide +kernel
theorem hyS_X9_favouring : yX9_favouring.cls ≠ "java/lang/invoke/MethodHandle" ∧ yX9_favouring.cls ≠ "java/lang/invoke/VarHandle" ∧ (parseMethodDescriptor yX9_favouring.desc).map (fun d => d.parameters.length) = some 1 := by decide +kernel
theorem hyV_X9_alive : yX9_alive.cls = RX9 ∧ yX9_alive.cls ≠ "java/lang/invoke/MethodHandle" ∧ yX9_alive.cls ≠ "java/lang/invoke/VarHandle" ∧ (parseMethodDescriptor yX9_alive.desc).map (fun d => d.parameters.length) = some 0 := by decide +kernel
theorem hyS_X9_alive : yX9_alive.cls ≠ "java/lang/invoke/MethodHandle" ∧ yX9_alive.cls ≠ "java/lang/invoke/VarHandle" ∧ (parseMethodDescriptor yX9_alive.desc).map (fun d => d.parameters.length) = some 0 := by decide +kernel
def f_X9_doneUp (v_this_told : Nat → Int32) (v_this_st : Nat → Int32) (x1 : Int32) : Option (Int32) := (f_X9_favouring v_this_told v_this_st x1).bind fun y1 => (f_X9_alive v_this_told v_this_st).bind fun y3 => some (((y1 ||| ((1 : Int32) <<< (x1 &&& 31))) &&& y3))
def w_X9_doneUp (cyI cyZ cyW : ClassId) (a_this : Nat) (a_this_told : Nat) (a_this_st : Nat) (a_this_text : Nat) (v_this_letters : Int32) (v_this_place : Int32) (v_this_token : Int32) (v_this_value : Int32) (v_this_begins : Int32) (a_this_read : Nat) (v_this_clauses : Int32) (a_this_ahead : Nat) (v_this_undoMany : Int32) (a_this_isKept : Nat) (a_this_kept : Nat) (v_this_fewestMany : Int32) (v_this_fewestSets : Int32) (v_this_fewestSet : Int32) (v_this_fewestMost : Int32) (a_this_aside : Nat) (a_this_seens : Nat) (v_this_seenMany : Int32) (v_this_told : Nat → Int32) (v_this_st : Nat → Int32) : va_W := [(a_this, .inr (9, [.ref a_this_told, .ref a_this_st, .ref a_this_text, .int v_this_letters, .int v_this_place, .int v_this_token, .int v_this_value, .int v_this_begins, .ref a_this_read, .int v_this_clauses, .ref a_this_ahead, .int v_this_undoMany, .ref a_this_isKept, .ref a_this_kept, .int v_this_fewestMany, .int v_this_fewestSets, .int v_this_fewestSet, .int v_this_fewestMost, .ref a_this_aside, .ref a_this_seens, .int v_this_seenMany])), (a_this_told, .inl (cyI, 37, .inl v_this_told)), (a_this_st, .inl (cyI, 15, .inl v_this_st))]
set_option maxHeartbeats 4000000 in
set_option maxRecDepth 100000 in
theorem c_X9_doneUp (l : Launch) (D : va_G) (cyI cyZ cyW : ClassId) (a_this : Nat) (a_this_told : Nat) (a_this_st : Nat) (a_this_text : Nat) (v_this_letters : Int32) (v_this_place : Int32) (v_this_token : Int32) (v_this_value : Int32) (v_this_begins : Int32) (a_this_read : Nat) (v_this_clauses : Int32) (a_this_ahead : Nat) (v_this_undoMany : Int32) (a_this_isKept : Nat) (a_this_kept : Nat) (v_this_fewestMany : Int32) (v_this_fewestSets : Int32) (v_this_fewestSet : Int32) (v_this_fewestMost : Int32) (a_this_aside : Nat) (a_this_seens : Nat) (v_this_seenMany : Int32) (v_this_told : Nat → Int32) (v_this_st : Nat → Int32) (x1 : Int32) (res : Int32) (hf : f_X9_doneUp v_this_told v_this_st x1 = some res) : ∀ sz, Met l yX9_doneUp wsX9_doneUp { frames := 3, cells := 0, slots := 0, locals := 63 } (PCx D (tyG cyI cyZ cyW) [.ref a_this, .int x1] (w_X9_doneUp cyI cyZ cyW a_this a_this_told a_this_st a_this_text v_this_letters v_this_place v_this_token v_this_value v_this_begins a_this_read v_this_clauses a_this_ahead v_this_undoMany a_this_isKept a_this_kept v_this_fewestMany v_this_fewestSets v_this_fewestSet v_this_fewestMost a_this_aside a_this_seens v_this_seenMany v_this_told v_this_st) sz) (QI D (tyG cyI cyZ cyW) (w_X9_doneUp cyI cyZ cyW a_this a_this_told a_this_st a_this_text v_this_letters v_this_place v_this_token v_this_value v_this_begins a_this_read v_this_clauses a_this_ahead v_this_undoMany a_this_isKept a_this_kept v_this_fewestMany v_this_fewestSets v_this_fewestSet v_this_fewestMost a_this_aside a_this_seens v_this_seenMany v_this_told v_this_st) sz res (w_X9_doneUp cyI cyZ cyW a_this a_this_told a_this_st a_this_text v_this_letters v_this_place v_this_token v_this_value v_this_begins a_this_read v_this_clauses a_this_ahead v_this_undoMany a_this_isKept a_this_kept v_this_fewestMany v_this_fewestSets v_this_fewestSet v_this_fewestMost a_this_aside a_this_seens v_this_seenMany v_this_told v_this_st)) 0 0 (va_A (w_X9_doneUp cyI cyZ cyW a_this a_this_told a_this_st a_this_text v_this_letters v_this_place v_this_token v_this_value v_this_begins a_this_read v_this_clauses a_this_ahead v_this_undoMany a_this_isKept a_this_kept v_this_fewestMany v_this_fewestSets v_this_fewestSet v_this_fewestMost a_this_aside a_this_seens v_this_seenMany v_this_told v_this_st) sz) := by
  intro sz
  refine met_of (cc := cX9_doneUp) (maxL := 2) (ret := (some .int)) (lv0 := [(0, .ref a_this), (1, .int x1)]) (by decide) rfl ⟨(Nat.le_of_ble_eq_true rfl), rfl⟩ ?_
  intro p e s m below meth c C hr hlk hnm hsz
  subst hsz
  have C : CX p s m _ c 2 cX9_doneUp RX9 wsX9_doneUp D (tyG cyI cyZ cyW) _ := C
  refine r_aload_n C dX9_doneUp_0 rfl 0 rfl ?_
  refine r_iload_n C dX9_doneUp_1 rfl 1 rfl ?_
  obtain ⟨y1, hy2, hf⟩ := bd_some hf
  refine r_roV_i (As := [.int x1]) (rest := []) C (c_X9_favouring l D cyI cyZ cyW a_this a_this_told a_this_st a_this_text v_this_letters v_this_place v_this_token v_this_value v_this_begins a_this_read v_this_clauses a_this_ahead v_this_undoMany a_this_isKept a_this_kept v_this_fewestMany v_this_fewestSets v_this_fewestSet v_this_fewestMost a_this_aside a_this_seens v_this_seenMany v_this_told v_this_st x1 y1 hy2) gX9_doneUp_X9_favouring rfl hyV_X9_favouring ⟨rfl, rfl, (Nat.le_of_ble_eq_true rfl), (Nat.le_of_ble_eq_true rfl)⟩ rfl 0 rfl rfl [0, 1, 2] rfl rfl rfl (Nat.le_of_ble_eq_true rfl) ⟨Nat.zero_le _, Nat.zero_le _⟩ dX9_doneUp_2 ?_
  refine r_iconst C 1 dX9_doneUp_5 (by decide) ?_
  refine r_iload_n C dX9_doneUp_6 rfl 1 rfl ?_
  refine r_ishl C dX9_doneUp_7 ?_
  refine r_ior C dX9_doneUp_8 ?_
  refine r_aload_n C dX9_doneUp_9 rfl 0 rfl ?_
  obtain ⟨y3, hy4, hf⟩ := bd_some hf
  refine r_roV_i (As := []) (rest := [.int (y1 ||| ((1 : Int32) <<< (x1 &&& 31)))]) C (c_X9_alive l D cyI cyZ cyW a_this a_this_told a_this_st a_this_text v_this_letters v_this_place v_this_token v_this_value v_this_begins a_this_read v_this_clauses a_this_ahead v_this_undoMany a_this_isKept a_this_kept v_this_fewestMany v_this_fewestSets v_this_fewestSet v_this_fewestMost a_this_aside a_this_seens v_this_seenMany v_this_told v_this_st y3 hy4) gX9_doneUp_X9_alive rfl hyV_X9_alive ⟨rfl, rfl, (Nat.le_of_ble_eq_true rfl), (Nat.le_of_ble_eq_true rfl)⟩ rfl 0 rfl rfl [0, 1, 2] rfl rfl rfl (Nat.le_of_ble_eq_true rfl) ⟨Nat.zero_le _, Nat.zero_le _⟩ dX9_doneUp_10 ?_
  refine r_iand C dX9_doneUp_13 ?_
  rw [← Option.some.inj hf]
  exact r_iret C hr hlk dX9_doneUp_14

theorem lk_X9_isCarried_1 : Cond.fieldLink RX9 7 "ParishCoatModel" "told" "[I" ∈ wsX9_isCarried := List.mem_of_getElem? (i := 1) rfl
theorem in_X9_isCarried_X9 : ∀ w ∈ u_ws RX9 TX9 21, w ∈ wsX9_isCarried := fun _ h => List.mem_cons_of_mem _ (List.mem_append_right _ h)
theorem hyV_X9_doneUp : yX9_doneUp.cls = RX9 ∧ yX9_doneUp.cls ≠ "java/lang/invoke/MethodHandle" ∧ yX9_doneUp.cls ≠ "java/lang/invoke/VarHandle" ∧ (parseMethodDescriptor yX9_doneUp.desc).map (fun d => d.parameters.length) = some 1 := by decide +kernel
theorem hyS_X9_doneUp : yX9_doneUp.cls ≠ "java/lang/invoke/MethodHandle" ∧ yX9_doneUp.cls ≠ "java/lang/invoke/VarHandle" ∧ (parseMethodDescriptor yX9_doneUp.desc).map (fun d => d.parameters.length) = some 1 := by decide +kernel
theorem hyV_X9_weights : yX9_weights.cls = RX9 ∧ yX9_weights.cls ≠ "java/lang/invoke/MethodHandle" ∧ yX9_weights.cls ≠ "java/lang/invoke/VarHandle" ∧ (parseMethodDescriptor yX9_weights.desc).map (fun d => d.parameters.length) = some 1 := by decide +kernel
theorem hyS_X9_weights : yX9_weights.cls ≠ "java/lang/invoke/MethodHandle" ∧ yX9_weights.cls ≠ "java/lang/invoke/VarHandle" ∧ (parseMethodDescriptor yX9_weights.desc).map (fun d => d.parameters.length) = some 1 := by decide +kernel
def f_X9_isCarried (v_this_told : Nat → Int32) (v_this_st : Nat → Int32) (x1 : Int32) : Option (Int32) := (f_X9_doneUp v_this_told v_this_st x1).bind fun y1 => (f_X9_weights v_this_st v_this_told y1).bind fun y3 => if y3 < (v_this_told 1) then (some (0)) else (some (1))
def w_X9_isCarried (cyI cyZ cyW : ClassId) (a_this : Nat) (a_this_told : Nat) (a_this_st : Nat) (a_this_text : Nat) (v_this_letters : Int32) (v_this_place : Int32) (v_this_token : Int32) (v_this_value : Int32) (v_this_begins : Int32) (a_this_read : Nat) (v_this_clauses : Int32) (a_this_ahead : Nat) (v_this_undoMany : Int32) (a_this_isKept : Nat) (a_this_kept : Nat) (v_this_fewestMany : Int32) (v_this_fewestSets : Int32) (v_this_fewestSet : Int32) (v_this_fewestMost : Int32) (a_this_aside : Nat) (a_this_seens : Nat) (v_this_seenMany : Int32) (v_this_told : Nat → Int32) (v_this_st : Nat → Int32) : va_W := [(a_this, .inr (9, [.ref a_this_told, .ref a_this_st, .ref a_this_text, .int v_this_letters, .int v_this_place, .int v_this_token, .int v_this_value, .int v_this_begins, .ref a_this_read, .int v_this_clauses, .ref a_this_ahead, .int v_this_undoMany, .ref a_this_isKept, .ref a_this_kept, .int v_this_fewestMany, .int v_this_fewestSets, .int v_this_fewestSet, .int v_this_fewestMost, .ref a_this_aside, .ref a_this_seens, .int v_this_seenMany])), (a_this_told, .inl (cyI, 37, .inl v_this_told)), (a_this_st, .inl (cyI, 15, .inl v_this_st))]
set_option maxHeartbeats 4000000 in
set_option maxRecDepth 100000 in
theorem c_X9_isCarried (l : Launch) (D : va_G) (cyI cyZ cyW : ClassId) (a_this : Nat) (a_this_told : Nat) (a_this_st : Nat) (a_this_text : Nat) (v_this_letters : Int32) (v_this_place : Int32) (v_this_token : Int32) (v_this_value : Int32) (v_this_begins : Int32) (a_this_read : Nat) (v_this_clauses : Int32) (a_this_ahead : Nat) (v_this_undoMany : Int32) (a_this_isKept : Nat) (a_this_kept : Nat) (v_this_fewestMany : Int32) (v_this_fewestSets : Int32) (v_this_fewestSet : Int32) (v_this_fewestMost : Int32) (a_this_aside : Nat) (a_this_seens : Nat) (v_this_seenMany : Int32) (v_this_told : Nat → Int32) (v_this_st : Nat → Int32) (x1 : Int32) (res : Int32) (hf : f_X9_isCarried v_this_told v_this_st x1 = some res) : ∀ sz, Met l yX9_isCarried wsX9_isCarried { frames := 4, cells := 0, slots := 0, locals := 84 } (PCx D (tyG cyI cyZ cyW) [.ref a_this, .int x1] (w_X9_isCarried cyI cyZ cyW a_this a_this_told a_this_st a_this_text v_this_letters v_this_place v_this_token v_this_value v_this_begins a_this_read v_this_clauses a_this_ahead v_this_undoMany a_this_isKept a_this_kept v_this_fewestMany v_this_fewestSets v_this_fewestSet v_this_fewestMost a_this_aside a_this_seens v_this_seenMany v_this_told v_this_st) sz) (QI D (tyG cyI cyZ cyW) (w_X9_isCarried cyI cyZ cyW a_this a_this_told a_this_st a_this_text v_this_letters v_this_place v_this_token v_this_value v_this_begins a_this_read v_this_clauses a_this_ahead v_this_undoMany a_this_isKept a_this_kept v_this_fewestMany v_this_fewestSets v_this_fewestSet v_this_fewestMost a_this_aside a_this_seens v_this_seenMany v_this_told v_this_st) sz res (w_X9_isCarried cyI cyZ cyW a_this a_this_told a_this_st a_this_text v_this_letters v_this_place v_this_token v_this_value v_this_begins a_this_read v_this_clauses a_this_ahead v_this_undoMany a_this_isKept a_this_kept v_this_fewestMany v_this_fewestSets v_this_fewestSet v_this_fewestMost a_this_aside a_this_seens v_this_seenMany v_this_told v_this_st)) 0 0 (va_A (w_X9_isCarried cyI cyZ cyW a_this a_this_told a_this_st a_this_text v_this_letters v_this_place v_this_token v_this_value v_this_begins a_this_read v_this_clauses a_this_ahead v_this_undoMany a_this_isKept a_this_kept v_this_fewestMany v_this_fewestSets v_this_fewestSet v_this_fewestMost a_this_aside a_this_seens v_this_seenMany v_this_told v_this_st) sz) := by
  intro sz
  refine met_of (cc := cX9_isCarried) (maxL := 2) (ret := (some .boolean)) (lv0 := [(0, .ref a_this), (1, .int x1)]) (by decide) rfl ⟨(Nat.le_of_ble_eq_true rfl), rfl⟩ ?_
  intro p e s m below meth c C hr hlk hnm hsz
  subst hsz
  have C : CX p s m _ c 2 cX9_isCarried RX9 wsX9_isCarried D (tyG cyI cyZ cyW) _ := C
  refine r_aload_n C dX9_isCarried_0 rfl 0 rfl ?_
  refine r_aload_n C dX9_isCarried_1 rfl 0 rfl ?_
  refine r_iload_n C dX9_isCarried_2 rfl 1 rfl ?_
  obtain ⟨y1, hy2, hf⟩ := bd_some hf
  refine r_roV_i (As := [.int x1]) (rest := [.ref a_this]) C (c_X9_doneUp l D cyI cyZ cyW a_this a_this_told a_this_st a_this_text v_this_letters v_this_place v_this_token v_this_value v_this_begins a_this_read v_this_clauses a_this_ahead v_this_undoMany a_this_isKept a_this_kept v_this_fewestMany v_this_fewestSets v_this_fewestSet v_this_fewestMost a_this_aside a_this_seens v_this_seenMany v_this_told v_this_st x1 y1 hy2) gX9_isCarried_X9_doneUp rfl hyV_X9_doneUp ⟨rfl, rfl, (Nat.le_of_ble_eq_true rfl), (Nat.le_of_ble_eq_true rfl)⟩ rfl 0 rfl rfl [0, 1, 2] rfl rfl rfl (Nat.le_of_ble_eq_true rfl) ⟨Nat.zero_le _, Nat.zero_le _⟩ dX9_isCarried_3 ?_
  obtain ⟨y3, hy4, hf⟩ := bd_some hf
  refine r_roV_i (As := [.int y1]) (rest := []) C (c_X9_weights l D cyI cyZ cyW a_this a_this_told a_this_st a_this_text v_this_letters v_this_place v_this_token v_this_value v_this_begins a_this_read v_this_clauses a_this_ahead v_this_undoMany a_this_isKept a_this_kept v_this_fewestMany v_this_fewestSets v_this_fewestSet v_this_fewestMost a_this_aside a_this_seens v_this_seenMany v_this_st v_this_told y1 y3 hy4) gX9_isCarried_X9_weights rfl hyV_X9_weights ⟨rfl, rfl, (Nat.le_of_ble_eq_true rfl), (Nat.le_of_ble_eq_true rfl)⟩ rfl 0 rfl rfl [0, 2, 1] rfl rfl rfl (Nat.le_of_ble_eq_true rfl) ⟨Nat.zero_le _, Nat.zero_le _⟩ dX9_isCarried_6 ?_
  refine r_aload_n C dX9_isCarried_9 rfl 0 rfl ?_
  refine r_get C in_X9_isCarried_X9 0 rfl rfl 0 (by decide) lk_X9_isCarried_1 rfl rfl dX9_isCarried_10 ?_
  refine r_iconst C 1 dX9_isCarried_13 (by decide) ?_
  refine r_iald_k C 1 1 0 rfl rfl (kk_ 1 37 (by decide) (by decide)) dX9_isCarried_14 ?_
  refine r_icmp_lt C 22 dX9_isCarried_15 (by decide) hf (fun hf => ?_) (fun hf => ?_)
  · refine r_iconst C 0 dX9_isCarried_22 (by decide) ?_
    rw [← Option.some.inj hf]
    exact r_zret (r := 0) C hr hlk rfl dX9_isCarried_23
  · refine r_iconst C 1 dX9_isCarried_18 (by decide) ?_
    refine r_goto C 23 dX9_isCarried_19 (by decide) ?_
    rw [← Option.some.inj hf]
    exact r_zret (r := 1) C hr hlk rfl dX9_isCarried_23

theorem lk_X9_family_1 : Cond.fieldLink RX9 7 "ParishCoatModel" "told" "[I" ∈ wsX9_family := List.mem_of_getElem? (i := 1) rfl
theorem lk_X9_family_2 : Cond.fieldLink RX9 13 "ParishCoatModel" "st" "[I" ∈ wsX9_family := List.mem_of_getElem? (i := 2) rfl
theorem in_X9_family_X9 : ∀ w ∈ u_ws RX9 TX9 21, w ∈ wsX9_family := fun _ h => List.mem_cons_of_mem _ (List.mem_append_right _ h)
theorem hyV_X9_isFamily : yX9_isFamily.cls = RX9 ∧ yX9_isFamily.cls ≠ "java/lang/invoke/MethodHandle" ∧ yX9_isFamily.cls ≠ "java/lang/invoke/VarHandle" ∧ (parseMethodDescriptor yX9_isFamily.desc).map (fun d => d.parameters.length) = some 1 := by decide +kernel
theorem hyS_X9_isFamily : yX9_isFamily.cls ≠ "java/lang/invoke/MethodHandle" ∧ yX9_isFamily.cls ≠ "java/lang/invoke/VarHandle" ∧ (parseMethodDescriptor yX9_isFamily.desc).map (fun d => d.parameters.length) = some 1 := by decide +kernel
def f_X9_family (v_this_told : Nat → Int32) (v_this_st : Nat → Int32) (x1 : Int32) (x2 : Int32) : Option (Int32) := (f_X9_isFamily v_this_told x1).bind fun y1 => if y1 = 0 then (some ((-2))) else (if x2 = 0 then (gd_ (3 + x1) 37 (some ((v_this_told (Int32.toNatClampNeg (3 + x1)))))) else (if x2 = 1 then (gd_ (10 + x1) 37 (some ((v_this_told (Int32.toNatClampNeg (10 + x1)))))) else (if x2 = 2 then (gd_ (17 + x1) 37 (some ((v_this_told (Int32.toNatClampNeg (17 + x1)))))) else (if x2 = 3 then (gd_ x1 15 (some ((v_this_st (Int32.toNatClampNeg x1))))) else (if x2 = 4 then (gd_ (7 + x1) 15 (some ((v_this_st (Int32.toNatClampNeg (7 + x1)))))) else (if x2 = 5 then ((f_X9_isFrozen v_this_st x1).bind fun y13 => if y13 = 0 then ((f_X9_doneUp v_this_told v_this_st x1).bind fun y15 => some (y15)) else (some (0))) else (if x2 = 6 then ((f_X9_isNight v_this_st).bind fun y18 => (f_X9_weightBy v_this_told x1 y18).bind fun y20 => some (y20)) else (some ((-3))))))))))
def w_X9_family (cyI cyZ cyW : ClassId) (a_this : Nat) (a_this_told : Nat) (a_this_st : Nat) (a_this_text : Nat) (v_this_letters : Int32) (v_this_place : Int32) (v_this_token : Int32) (v_this_value : Int32) (v_this_begins : Int32) (a_this_read : Nat) (v_this_clauses : Int32) (a_this_ahead : Nat) (v_this_undoMany : Int32) (a_this_isKept : Nat) (a_this_kept : Nat) (v_this_fewestMany : Int32) (v_this_fewestSets : Int32) (v_this_fewestSet : Int32) (v_this_fewestMost : Int32) (a_this_aside : Nat) (a_this_seens : Nat) (v_this_seenMany : Int32) (v_this_told : Nat → Int32) (v_this_st : Nat → Int32) : va_W := [(a_this, .inr (9, [.ref a_this_told, .ref a_this_st, .ref a_this_text, .int v_this_letters, .int v_this_place, .int v_this_token, .int v_this_value, .int v_this_begins, .ref a_this_read, .int v_this_clauses, .ref a_this_ahead, .int v_this_undoMany, .ref a_this_isKept, .ref a_this_kept, .int v_this_fewestMany, .int v_this_fewestSets, .int v_this_fewestSet, .int v_this_fewestMost, .ref a_this_aside, .ref a_this_seens, .int v_this_seenMany])), (a_this_told, .inl (cyI, 37, .inl v_this_told)), (a_this_st, .inl (cyI, 15, .inl v_this_st))]
set_option maxHeartbeats 4000000 in
set_option maxRecDepth 100000 in
theorem c_X9_family (l : Launch) (D : va_G) (cyI cyZ cyW : ClassId) (a_this : Nat) (a_this_told : Nat) (a_this_st : Nat) (a_this_text : Nat) (v_this_letters : Int32) (v_this_place : Int32) (v_this_token : Int32) (v_this_value : Int32) (v_this_begins : Int32) (a_this_read : Nat) (v_this_clauses : Int32) (a_this_ahead : Nat) (v_this_undoMany : Int32) (a_this_isKept : Nat) (a_this_kept : Nat) (v_this_fewestMany : Int32) (v_this_fewestSets : Int32) (v_this_fewestSet : Int32) (v_this_fewestMost : Int32) (a_this_aside : Nat) (a_this_seens : Nat) (v_this_seenMany : Int32) (v_this_told : Nat → Int32) (v_this_st : Nat → Int32) (x1 : Int32) (x2 : Int32) (res : Int32) (hf : f_X9_family v_this_told v_this_st x1 x2 = some res) : ∀ sz, Met l yX9_family wsX9_family { frames := 4, cells := 0, slots := 0, locals := 84 } (PCx D (tyG cyI cyZ cyW) [.ref a_this, .int x1, .int x2] (w_X9_family cyI cyZ cyW a_this a_this_told a_this_st a_this_text v_this_letters v_this_place v_this_token v_this_value v_this_begins a_this_read v_this_clauses a_this_ahead v_this_undoMany a_this_isKept a_this_kept v_this_fewestMany v_this_fewestSets v_this_fewestSet v_this_fewestMost a_this_aside a_this_seens v_this_seenMany v_this_told v_this_st) sz) (QI D (tyG cyI cyZ cyW) (w_X9_family cyI cyZ cyW a_this a_this_told a_this_st a_this_text v_this_letters v_this_place v_this_token v_this_value v_this_begins a_this_read v_this_clauses a_this_ahead v_this_undoMany a_this_isKept a_this_kept v_this_fewestMany v_this_fewestSets v_this_fewestSet v_this_fewestMost a_this_aside a_this_seens v_this_seenMany v_this_told v_this_st) sz res (w_X9_family cyI cyZ cyW a_this a_this_told a_this_st a_this_text v_this_letters v_this_place v_this_token v_this_value v_this_begins a_this_read v_this_clauses a_this_ahead v_this_undoMany a_this_isKept a_this_kept v_this_fewestMany v_this_fewestSets v_this_fewestSet v_this_fewestMost a_this_aside a_this_seens v_this_seenMany v_this_told v_this_st)) 0 0 (va_A (w_X9_family cyI cyZ cyW a_this a_this_told a_this_st a_this_text v_this_letters v_this_place v_this_token v_this_value v_this_begins a_this_read v_this_clauses a_this_ahead v_this_undoMany a_this_isKept a_this_kept v_this_fewestMany v_this_fewestSets v_this_fewestSet v_this_fewestMost a_this_aside a_this_seens v_this_seenMany v_this_told v_this_st) sz) := by
  intro sz
  refine met_of (cc := cX9_family) (maxL := 3) (ret := (some .int)) (lv0 := [(0, .ref a_this), (1, .int x1), (2, .int x2)]) (by decide) rfl ⟨(Nat.le_of_ble_eq_true rfl), rfl⟩ ?_
  intro p e s m below meth c C hr hlk hnm hsz
  subst hsz
  have C : CX p s m _ c 3 cX9_family RX9 wsX9_family D (tyG cyI cyZ cyW) _ := C
  refine r_aload_n C dX9_family_0 rfl 0 rfl ?_
  refine r_iload_n C dX9_family_1 rfl 1 rfl ?_
  obtain ⟨y1, hy2, hf⟩ := bd_some hf
  refine r_roV_i (As := [.int x1]) (rest := []) C (c_X9_isFamily l D cyI cyZ cyW a_this a_this_told a_this_st a_this_text v_this_letters v_this_place v_this_token v_this_value v_this_begins a_this_read v_this_clauses a_this_ahead v_this_undoMany a_this_isKept a_this_kept v_this_fewestMany v_this_fewestSets v_this_fewestSet v_this_fewestMost a_this_aside a_this_seens v_this_seenMany v_this_told x1 y1 hy2) gX9_family_X9_isFamily rfl hyV_X9_isFamily ⟨rfl, rfl, (Nat.le_of_ble_eq_true rfl), (Nat.le_of_ble_eq_true rfl)⟩ rfl 0 rfl rfl [0, 1] rfl rfl rfl (Nat.le_of_ble_eq_true rfl) ⟨Nat.zero_le _, Nat.zero_le _⟩ dX9_family_2 ?_
  refine r_if_ne C 11 dX9_family_5 (by decide) hf (fun hf => ?_) (fun hf => ?_)
  · refine r_iload_n C dX9_family_11 rfl 2 rfl ?_
    rcases sw_ hf with ⟨hc4, hf⟩ | ⟨hc4, hf⟩
    · refine r_tableIn C 56 dX9_family_12 (by rw [hc4]; decide) (by rw [hc4]; decide) (by rw [hc4]; rfl) (by decide) ?_
      refine r_aload_n C dX9_family_56 rfl 0 rfl ?_
      refine r_get C in_X9_family_X9 0 rfl rfl 0 (by decide) lk_X9_family_1 rfl rfl dX9_family_57 ?_
      refine r_iconst C 3 dX9_family_60 (by decide) ?_
      refine r_iload_n C dX9_family_61 rfl 1 rfl ?_
      refine r_iadd C dX9_family_62 ?_
      obtain ⟨hi3, hf⟩ := gd_some hf
      refine r_iald C 1 0 rfl rfl hi3 dX9_family_63 ?_
      rw [← Option.some.inj hf]
      exact r_iret C hr hlk dX9_family_64
    rcases sw_ hf with ⟨hc6, hf⟩ | ⟨hc6, hf⟩
    · refine r_tableIn C 65 dX9_family_12 (by rw [hc6]; decide) (by rw [hc6]; decide) (by rw [hc6]; rfl) (by decide) ?_
      refine r_aload_n C dX9_family_65 rfl 0 rfl ?_
      refine r_get C in_X9_family_X9 0 rfl rfl 0 (by decide) lk_X9_family_1 rfl rfl dX9_family_66 ?_
      refine r_bipush C 10 dX9_family_69 (by decide) ?_
      refine r_iload_n C dX9_family_71 rfl 1 rfl ?_
      refine r_iadd C dX9_family_72 ?_
      obtain ⟨hi5, hf⟩ := gd_some hf
      refine r_iald C 1 0 rfl rfl hi5 dX9_family_73 ?_
      rw [← Option.some.inj hf]
      exact r_iret C hr hlk dX9_family_74
    rcases sw_ hf with ⟨hc8, hf⟩ | ⟨hc8, hf⟩
    · refine r_tableIn C 75 dX9_family_12 (by rw [hc8]; decide) (by rw [hc8]; decide) (by rw [hc8]; rfl) (by decide) ?_
      refine r_aload_n C dX9_family_75 rfl 0 rfl ?_
      refine r_get C in_X9_family_X9 0 rfl rfl 0 (by decide) lk_X9_family_1 rfl rfl dX9_family_76 ?_
      refine r_bipush C 17 dX9_family_79 (by decide) ?_
      refine r_iload_n C dX9_family_81 rfl 1 rfl ?_
      refine r_iadd C dX9_family_82 ?_
      obtain ⟨hi7, hf⟩ := gd_some hf
      refine r_iald C 1 0 rfl rfl hi7 dX9_family_83 ?_
      rw [← Option.some.inj hf]
      exact r_iret C hr hlk dX9_family_84
    rcases sw_ hf with ⟨hc10, hf⟩ | ⟨hc10, hf⟩
    · refine r_tableIn C 85 dX9_family_12 (by rw [hc10]; decide) (by rw [hc10]; decide) (by rw [hc10]; rfl) (by decide) ?_
      refine r_aload_n C dX9_family_85 rfl 0 rfl ?_
      refine r_get C in_X9_family_X9 0 rfl rfl 1 (by decide) lk_X9_family_2 rfl rfl dX9_family_86 ?_
      refine r_iload_n C dX9_family_89 rfl 1 rfl ?_
      obtain ⟨hi9, hf⟩ := gd_some hf
      refine r_iald C 2 0 rfl rfl hi9 dX9_family_90 ?_
      rw [← Option.some.inj hf]
      exact r_iret C hr hlk dX9_family_91
    rcases sw_ hf with ⟨hc12, hf⟩ | ⟨hc12, hf⟩
    · refine r_tableIn C 92 dX9_family_12 (by rw [hc12]; decide) (by rw [hc12]; decide) (by rw [hc12]; rfl) (by decide) ?_
      refine r_aload_n C dX9_family_92 rfl 0 rfl ?_
      refine r_get C in_X9_family_X9 0 rfl rfl 1 (by decide) lk_X9_family_2 rfl rfl dX9_family_93 ?_
      refine r_bipush C 7 dX9_family_96 (by decide) ?_
      refine r_iload_n C dX9_family_98 rfl 1 rfl ?_
      refine r_iadd C dX9_family_99 ?_
      obtain ⟨hi11, hf⟩ := gd_some hf
      refine r_iald C 2 0 rfl rfl hi11 dX9_family_100 ?_
      rw [← Option.some.inj hf]
      exact r_iret C hr hlk dX9_family_101
    rcases sw_ hf with ⟨hc17, hf⟩ | ⟨hc17, hf⟩
    · refine r_tableIn C 102 dX9_family_12 (by rw [hc17]; decide) (by rw [hc17]; decide) (by rw [hc17]; rfl) (by decide) ?_
      refine r_aload_n C dX9_family_102 rfl 0 rfl ?_
      refine r_iload_n C dX9_family_103 rfl 1 rfl ?_
      obtain ⟨y13, hy14, hf⟩ := bd_some hf
      refine r_roV_i (As := [.int x1]) (rest := []) C (c_X9_isFrozen l D cyI cyZ cyW a_this a_this_told a_this_st a_this_text v_this_letters v_this_place v_this_token v_this_value v_this_begins a_this_read v_this_clauses a_this_ahead v_this_undoMany a_this_isKept a_this_kept v_this_fewestMany v_this_fewestSets v_this_fewestSet v_this_fewestMost a_this_aside a_this_seens v_this_seenMany v_this_st x1 y13 hy14) gX9_family_X9_isFrozen rfl hyV_X9_isFrozen ⟨rfl, rfl, (Nat.le_of_ble_eq_true rfl), (Nat.le_of_ble_eq_true rfl)⟩ rfl 0 rfl rfl [0, 2] rfl rfl rfl (Nat.le_of_ble_eq_true rfl) ⟨Nat.zero_le _, Nat.zero_le _⟩ dX9_family_104 ?_
      refine r_if_eq C 114 dX9_family_107 (by decide) hf (fun hf => ?_) (fun hf => ?_)
      · refine r_aload_n C dX9_family_114 rfl 0 rfl ?_
        refine r_iload_n C dX9_family_115 rfl 1 rfl ?_
        obtain ⟨y15, hy16, hf⟩ := bd_some hf
        refine r_roV_i (As := [.int x1]) (rest := []) C (c_X9_doneUp l D cyI cyZ cyW a_this a_this_told a_this_st a_this_text v_this_letters v_this_place v_this_token v_this_value v_this_begins a_this_read v_this_clauses a_this_ahead v_this_undoMany a_this_isKept a_this_kept v_this_fewestMany v_this_fewestSets v_this_fewestSet v_this_fewestMost a_this_aside a_this_seens v_this_seenMany v_this_told v_this_st x1 y15 hy16) gX9_family_X9_doneUp rfl hyV_X9_doneUp ⟨rfl, rfl, (Nat.le_of_ble_eq_true rfl), (Nat.le_of_ble_eq_true rfl)⟩ rfl 0 rfl rfl [0, 1, 2] rfl rfl rfl (Nat.le_of_ble_eq_true rfl) ⟨Nat.zero_le _, Nat.zero_le _⟩ dX9_family_116 ?_
        rw [← Option.some.inj hf]
        exact r_iret C hr hlk dX9_family_119
      · refine r_iconst C 0 dX9_family_110 (by decide) ?_
        refine r_goto C 119 dX9_family_111 (by decide) ?_
        rw [← Option.some.inj hf]
        exact r_iret C hr hlk dX9_family_119
    rcases sw_ hf with ⟨hc22, hf⟩ | ⟨hc22, hf⟩
    · refine r_tableIn C 120 dX9_family_12 (by rw [hc22]; decide) (by rw [hc22]; decide) (by rw [hc22]; rfl) (by decide) ?_
      refine r_aload_n C dX9_family_120 rfl 0 rfl ?_
      refine r_iload_n C dX9_family_121 rfl 1 rfl ?_
      refine r_aload_n C dX9_family_122 rfl 0 rfl ?_
      obtain ⟨y18, hy19, hf⟩ := bd_some hf
      refine r_roV_i (As := []) (rest := [.int x1, .ref a_this]) C (c_X9_isNight l D cyI cyZ cyW a_this a_this_told a_this_st a_this_text v_this_letters v_this_place v_this_token v_this_value v_this_begins a_this_read v_this_clauses a_this_ahead v_this_undoMany a_this_isKept a_this_kept v_this_fewestMany v_this_fewestSets v_this_fewestSet v_this_fewestMost a_this_aside a_this_seens v_this_seenMany v_this_st y18 hy19) gX9_family_X9_isNight rfl hyV_X9_isNight ⟨rfl, rfl, (Nat.le_of_ble_eq_true rfl), (Nat.le_of_ble_eq_true rfl)⟩ rfl 0 rfl rfl [0, 2] rfl rfl rfl (Nat.le_of_ble_eq_true rfl) ⟨Nat.zero_le _, Nat.zero_le _⟩ dX9_family_123 ?_
      obtain ⟨y20, hy21, hf⟩ := bd_some hf
      refine r_roV_i (As := [.int x1, .int y18]) (rest := []) C (c_X9_weightBy l D cyI cyZ cyW a_this a_this_told a_this_st a_this_text v_this_letters v_this_place v_this_token v_this_value v_this_begins a_this_read v_this_clauses a_this_ahead v_this_undoMany a_this_isKept a_this_kept v_this_fewestMany v_this_fewestSets v_this_fewestSet v_this_fewestMost a_this_aside a_this_seens v_this_seenMany v_this_told x1 y18 y20 hy21) gX9_family_X9_weightBy rfl hyV_X9_weightBy ⟨rfl, rfl, (Nat.le_of_ble_eq_true rfl), (Nat.le_of_ble_eq_true rfl)⟩ rfl 0 rfl rfl [0, 1] rfl rfl rfl (Nat.le_of_ble_eq_true rfl) ⟨Nat.zero_le _, Nat.zero_le _⟩ dX9_family_126 ?_
      rw [← Option.some.inj hf]
      exact r_iret C hr hlk dX9_family_129
    have hc4 := ne_toInt hc4 (z := 0) (by decide)
    have hc6 := ne_toInt hc6 (z := 1) (by decide)
    have hc8 := ne_toInt hc8 (z := 2) (by decide)
    have hc10 := ne_toInt hc10 (z := 3) (by decide)
    have hc12 := ne_toInt hc12 (z := 4) (by decide)
    have hc17 := ne_toInt hc17 (z := 5) (by decide)
    have hc22 := ne_toInt hc22 (z := 6) (by decide)
    refine r_tableOut C 130 dX9_family_12 (by omega) (by decide) ?_
    refine r_bipush C (-3) dX9_family_130 (by decide) ?_
    rw [← Option.some.inj hf]
    exact r_iret C hr hlk dX9_family_132
  · refine r_bipush C (-2) dX9_family_8 (by decide) ?_
    rw [← Option.some.inj hf]
    exact r_iret C hr hlk dX9_family_10

theorem lk_X9_as_1 : Cond.constantLong RX9 152 (4) ∈ wsX9_as := List.mem_of_getElem? (i := 1) rfl
theorem lk_X9_as_2 : Cond.fieldLink RX9 7 "ParishCoatModel" "told" "[I" ∈ wsX9_as := List.mem_of_getElem? (i := 2) rfl
theorem in_X9_as_X9 : ∀ w ∈ u_ws RX9 TX9 21, w ∈ wsX9_as := fun _ h => List.mem_cons_of_mem _ (List.mem_append_right _ h)
def f_X9_as_b66 (v_this_told : Nat → Int32) (x1 : Int32) (s0 : Int32) : Option (Int32) := if s0 = 0 then (some ((-4))) else ((f_X9_weightBy v_this_told x1 0).bind fun y6 => (f_X9_weightBy v_this_told x1 1).bind fun y8 => some (((10 * y6) + y8)))
def f_X9_as_b61 (v_this_told : Nat → Int32) (x1 : Int32) : Option (Int32) := f_X9_as_b66 v_this_told x1 1
def f_X9_as_b65 (v_this_told : Nat → Int32) (x1 : Int32) : Option (Int32) := f_X9_as_b66 v_this_told x1 0
def f_X9_as_b49 (v_this_told : Nat → Int32) (x1 : Int32) (x2 : Int32) (x3 : Int32) : Option (Int32) := if x2 ≤ 1 then (f_X9_as_b65 v_this_told x1) else (if x3 = (x2 - 1) then (f_X9_as_b61 v_this_told x1) else (f_X9_as_b65 v_this_told x1))
def f_X9_as (v_this_told : Nat → Int32) (x1 : Int32) (x2 : Int32) : Option (Int32) := (f_X9_isFamily v_this_told x1).bind fun y1 => if y1 = 0 then (some ((-2))) else ((f_X9_in (Int32.toInt64 x2) 0 4).bind fun y3 => if y3 = 0 then (some ((-3))) else (gd_ (3 + x1) 37 (if x2 = 0 then (f_X9_as_b61 v_this_told x1) else (if x2 = 1 then (if (v_this_told (Int32.toNatClampNeg (3 + x1))) < 3 then (f_X9_as_b61 v_this_told x1) else (f_X9_as_b49 v_this_told x1 x2 (v_this_told (Int32.toNatClampNeg (3 + x1))))) else (f_X9_as_b49 v_this_told x1 x2 (v_this_told (Int32.toNatClampNeg (3 + x1))))))))
def w_X9_as (cyI cyZ cyW : ClassId) (a_this : Nat) (a_this_told : Nat) (a_this_st : Nat) (a_this_text : Nat) (v_this_letters : Int32) (v_this_place : Int32) (v_this_token : Int32) (v_this_value : Int32) (v_this_begins : Int32) (a_this_read : Nat) (v_this_clauses : Int32) (a_this_ahead : Nat) (v_this_undoMany : Int32) (a_this_isKept : Nat) (a_this_kept : Nat) (v_this_fewestMany : Int32) (v_this_fewestSets : Int32) (v_this_fewestSet : Int32) (v_this_fewestMost : Int32) (a_this_aside : Nat) (a_this_seens : Nat) (v_this_seenMany : Int32) (v_this_told : Nat → Int32) : va_W := [(a_this, .inr (9, [.ref a_this_told, .ref a_this_st, .ref a_this_text, .int v_this_letters, .int v_this_place, .int v_this_token, .int v_this_value, .int v_this_begins, .ref a_this_read, .int v_this_clauses, .ref a_this_ahead, .int v_this_undoMany, .ref a_this_isKept, .ref a_this_kept, .int v_this_fewestMany, .int v_this_fewestSets, .int v_this_fewestSet, .int v_this_fewestMost, .ref a_this_aside, .ref a_this_seens, .int v_this_seenMany])), (a_this_told, .inl (cyI, 37, .inl v_this_told))]
set_option maxHeartbeats 4000000 in
set_option maxRecDepth 100000 in
theorem c_X9_as (l : Launch) (D : va_G) (cyI cyZ cyW : ClassId) (a_this : Nat) (a_this_told : Nat) (a_this_st : Nat) (a_this_text : Nat) (v_this_letters : Int32) (v_this_place : Int32) (v_this_token : Int32) (v_this_value : Int32) (v_this_begins : Int32) (a_this_read : Nat) (v_this_clauses : Int32) (a_this_ahead : Nat) (v_this_undoMany : Int32) (a_this_isKept : Nat) (a_this_kept : Nat) (v_this_fewestMany : Int32) (v_this_fewestSets : Int32) (v_this_fewestSet : Int32) (v_this_fewestMost : Int32) (a_this_aside : Nat) (a_this_seens : Nat) (v_this_seenMany : Int32) (v_this_told : Nat → Int32) (x1 : Int32) (x2 : Int32) (res : Int32) (hf : f_X9_as v_this_told x1 x2 = some res) : ∀ sz, Met l yX9_as wsX9_as { frames := 2, cells := 0, slots := 0, locals := 46 } (PCx D (tyG cyI cyZ cyW) [.ref a_this, .int x1, .int x2] (w_X9_as cyI cyZ cyW a_this a_this_told a_this_st a_this_text v_this_letters v_this_place v_this_token v_this_value v_this_begins a_this_read v_this_clauses a_this_ahead v_this_undoMany a_this_isKept a_this_kept v_this_fewestMany v_this_fewestSets v_this_fewestSet v_this_fewestMost a_this_aside a_this_seens v_this_seenMany v_this_told) sz) (QI D (tyG cyI cyZ cyW) (w_X9_as cyI cyZ cyW a_this a_this_told a_this_st a_this_text v_this_letters v_this_place v_this_token v_this_value v_this_begins a_this_read v_this_clauses a_this_ahead v_this_undoMany a_this_isKept a_this_kept v_this_fewestMany v_this_fewestSets v_this_fewestSet v_this_fewestMost a_this_aside a_this_seens v_this_seenMany v_this_told) sz res (w_X9_as cyI cyZ cyW a_this a_this_told a_this_st a_this_text v_this_letters v_this_place v_this_token v_this_value v_this_begins a_this_read v_this_clauses a_this_ahead v_this_undoMany a_this_isKept a_this_kept v_this_fewestMany v_this_fewestSets v_this_fewestSet v_this_fewestMost a_this_aside a_this_seens v_this_seenMany v_this_told)) 0 0 (va_A (w_X9_as cyI cyZ cyW a_this a_this_told a_this_st a_this_text v_this_letters v_this_place v_this_token v_this_value v_this_begins a_this_read v_this_clauses a_this_ahead v_this_undoMany a_this_isKept a_this_kept v_this_fewestMany v_this_fewestSets v_this_fewestSet v_this_fewestMost a_this_aside a_this_seens v_this_seenMany v_this_told) sz) := by
  intro sz
  refine met_of (cc := cX9_as) (maxL := 5) (ret := (some .int)) (lv0 := [(0, .ref a_this), (1, .int x1), (2, .int x2)]) (by decide) rfl ⟨(Nat.le_of_ble_eq_true rfl), rfl⟩ ?_
  intro p e s m below meth c C hr hlk hnm hsz
  subst hsz
  have C : CX p s m _ c 5 cX9_as RX9 wsX9_as D (tyG cyI cyZ cyW) _ := C
  obtain ⟨Z, hZ⟩ : ∃ Z : va_W → Nat → LV → List Value → Prop, Z = ST p l e { frames := 2, cells := 0, slots := 0, locals := 46 } s m [.ref a_this, .int x1, .int x2].toArray below meth c 5 D (va_A (w_X9_as cyI cyZ cyW a_this a_this_told a_this_st a_this_text v_this_letters v_this_place v_this_token v_this_value v_this_begins a_this_read v_this_clauses a_this_ahead v_this_undoMany a_this_isKept a_this_kept v_this_fewestMany v_this_fewestSets v_this_fewestSet v_this_fewestMost a_this_aside a_this_seens v_this_seenMany v_this_told) s.heap.size) (MQ below (QI D (tyG cyI cyZ cyW) (w_X9_as cyI cyZ cyW a_this a_this_told a_this_st a_this_text v_this_letters v_this_place v_this_token v_this_value v_this_begins a_this_read v_this_clauses a_this_ahead v_this_undoMany a_this_isKept a_this_kept v_this_fewestMany v_this_fewestSets v_this_fewestSet v_this_fewestMost a_this_aside a_this_seens v_this_seenMany v_this_told) s.heap.size res (w_X9_as cyI cyZ cyW a_this a_this_told a_this_st a_this_text v_this_letters v_this_place v_this_token v_this_value v_this_begins a_this_read v_this_clauses a_this_ahead v_this_undoMany a_this_isKept a_this_kept v_this_fewestMany v_this_fewestSets v_this_fewestSet v_this_fewestMost a_this_aside a_this_seens v_this_seenMany v_this_told)) [.ref a_this, .int x1, .int x2].toArray s 0 0 (va_A (w_X9_as cyI cyZ cyW a_this a_this_told a_this_st a_this_text v_this_letters v_this_place v_this_token v_this_value v_this_begins a_this_read v_this_clauses a_this_ahead v_this_undoMany a_this_isKept a_this_kept v_this_fewestMany v_this_fewestSets v_this_fewestSet v_this_fewestMost a_this_aside a_this_seens v_this_seenMany v_this_told) s.heap.size)) 0 0 := ⟨_, rfl⟩
  have hb_66 : ∀ (x1 : Int32) (s0 : Int32), f_X9_as_b66 v_this_told x1 s0 = some res → Z (w_X9_as cyI cyZ cyW a_this a_this_told a_this_st a_this_text v_this_letters v_this_place v_this_token v_this_value v_this_begins a_this_read v_this_clauses a_this_ahead v_this_undoMany a_this_isKept a_this_kept v_this_fewestMany v_this_fewestSets v_this_fewestSet v_this_fewestMost a_this_aside a_this_seens v_this_seenMany v_this_told) 66 [(0, .ref a_this), (1, .int x1)] [.int s0] := by
    subst hZ
    intro x1 s0 hf
    refine r_istore (lv' := [(4, .int s0), (0, .ref a_this), (1, .int x1)]) C dX9_as_66 (by decide) rfl ?_
    refine r_iload C dX9_as_68 0 rfl ?_
    refine r_if_eq C 92 dX9_as_70 (by decide) hf (fun hf => ?_) (fun hf => ?_)
    · refine r_bipush C (-4) dX9_as_92 (by decide) ?_
      rw [← Option.some.inj hf]
      exact r_iret C hr hlk dX9_as_94
    · refine r_bipush C 10 dX9_as_73 (by decide) ?_
      refine r_aload_n C dX9_as_75 rfl 1 rfl ?_
      refine r_iload_n C dX9_as_76 rfl 2 rfl ?_
      refine r_iconst C 0 dX9_as_77 (by decide) ?_
      obtain ⟨y6, hy7, hf⟩ := bd_some hf
      refine r_roV_i (As := [.int x1, .int 0]) (rest := [.int 10]) C (c_X9_weightBy l D cyI cyZ cyW a_this a_this_told a_this_st a_this_text v_this_letters v_this_place v_this_token v_this_value v_this_begins a_this_read v_this_clauses a_this_ahead v_this_undoMany a_this_isKept a_this_kept v_this_fewestMany v_this_fewestSets v_this_fewestSet v_this_fewestMost a_this_aside a_this_seens v_this_seenMany v_this_told x1 0 y6 hy7) gX9_as_X9_weightBy rfl hyV_X9_weightBy ⟨rfl, rfl, (Nat.le_of_ble_eq_true rfl), (Nat.le_of_ble_eq_true rfl)⟩ rfl 0 rfl rfl [0, 1] rfl rfl rfl (Nat.le_of_ble_eq_true rfl) ⟨Nat.zero_le _, Nat.zero_le _⟩ dX9_as_78 ?_
      refine r_imul C dX9_as_81 ?_
      refine r_aload_n C dX9_as_82 rfl 1 rfl ?_
      refine r_iload_n C dX9_as_83 rfl 2 rfl ?_
      refine r_iconst C 1 dX9_as_84 (by decide) ?_
      obtain ⟨y8, hy9, hf⟩ := bd_some hf
      refine r_roV_i (As := [.int x1, .int 1]) (rest := [.int (10 * y6)]) C (c_X9_weightBy l D cyI cyZ cyW a_this a_this_told a_this_st a_this_text v_this_letters v_this_place v_this_token v_this_value v_this_begins a_this_read v_this_clauses a_this_ahead v_this_undoMany a_this_isKept a_this_kept v_this_fewestMany v_this_fewestSets v_this_fewestSet v_this_fewestMost a_this_aside a_this_seens v_this_seenMany v_this_told x1 1 y8 hy9) gX9_as_X9_weightBy rfl hyV_X9_weightBy ⟨rfl, rfl, (Nat.le_of_ble_eq_true rfl), (Nat.le_of_ble_eq_true rfl)⟩ rfl 0 rfl rfl [0, 1] rfl rfl rfl (Nat.le_of_ble_eq_true rfl) ⟨Nat.zero_le _, Nat.zero_le _⟩ dX9_as_85 ?_
      refine r_iadd C dX9_as_88 ?_
      refine r_goto C 94 dX9_as_89 (by decide) ?_
      rw [← Option.some.inj hf]
      exact r_iret C hr hlk dX9_as_94
  have hb_61 : ∀ (x1 : Int32), f_X9_as_b61 v_this_told x1 = some res → Z (w_X9_as cyI cyZ cyW a_this a_this_told a_this_st a_this_text v_this_letters v_this_place v_this_token v_this_value v_this_begins a_this_read v_this_clauses a_this_ahead v_this_undoMany a_this_isKept a_this_kept v_this_fewestMany v_this_fewestSets v_this_fewestSet v_this_fewestMost a_this_aside a_this_seens v_this_seenMany v_this_told) 61 [(0, .ref a_this), (1, .int x1)] [] := by
    subst hZ
    intro x1 hf
    refine r_iconst C 1 dX9_as_61 (by decide) ?_
    refine r_goto C 66 dX9_as_62 (by decide) ?_
    exact ST_lv [0, 1] rfl (hb_66 x1 1 hf)
  have hb_65 : ∀ (x1 : Int32), f_X9_as_b65 v_this_told x1 = some res → Z (w_X9_as cyI cyZ cyW a_this a_this_told a_this_st a_this_text v_this_letters v_this_place v_this_token v_this_value v_this_begins a_this_read v_this_clauses a_this_ahead v_this_undoMany a_this_isKept a_this_kept v_this_fewestMany v_this_fewestSets v_this_fewestSet v_this_fewestMost a_this_aside a_this_seens v_this_seenMany v_this_told) 65 [(0, .ref a_this), (1, .int x1)] [] := by
    subst hZ
    intro x1 hf
    refine r_iconst C 0 dX9_as_65 (by decide) ?_
    exact ST_lv [0, 1] rfl (hb_66 x1 0 hf)
  have hb_49 : ∀ (x1 : Int32) (x2 : Int32) (x3 : Int32), f_X9_as_b49 v_this_told x1 x2 x3 = some res → Z (w_X9_as cyI cyZ cyW a_this a_this_told a_this_st a_this_text v_this_letters v_this_place v_this_token v_this_value v_this_begins a_this_read v_this_clauses a_this_ahead v_this_undoMany a_this_isKept a_this_kept v_this_fewestMany v_this_fewestSets v_this_fewestSet v_this_fewestMost a_this_aside a_this_seens v_this_seenMany v_this_told) 49 [(0, .ref a_this), (1, .int x1), (2, .int x2), (3, .int x3)] [] := by
    subst hZ
    intro x1 x2 x3 hf
    refine r_iload_n C dX9_as_49 rfl 2 rfl ?_
    refine r_iconst C 1 dX9_as_50 (by decide) ?_
    refine r_icmp_le C 65 dX9_as_51 (by decide) hf (fun hf => ?_) (fun hf => ?_)
    · exact ST_lv [0, 1] rfl (hb_65 x1 hf)
    · refine r_iload_n C dX9_as_54 rfl 3 rfl ?_
      refine r_iload_n C dX9_as_55 rfl 2 rfl ?_
      refine r_iconst C 1 dX9_as_56 (by decide) ?_
      refine r_isub C dX9_as_57 ?_
      refine r_icmp_ne C 65 dX9_as_58 (by decide) hf (fun hf => ?_) (fun hf => ?_)
      · exact ST_lv [0, 1] rfl (hb_65 x1 hf)
      · exact ST_lv [0, 1] rfl (hb_61 x1 hf)
  subst hZ
  refine r_aload_n C dX9_as_0 rfl 0 rfl ?_
  refine r_iload_n C dX9_as_1 rfl 1 rfl ?_
  obtain ⟨y1, hy2, hf⟩ := bd_some hf
  refine r_roV_i (As := [.int x1]) (rest := []) C (c_X9_isFamily l D cyI cyZ cyW a_this a_this_told a_this_st a_this_text v_this_letters v_this_place v_this_token v_this_value v_this_begins a_this_read v_this_clauses a_this_ahead v_this_undoMany a_this_isKept a_this_kept v_this_fewestMany v_this_fewestSets v_this_fewestSet v_this_fewestMost a_this_aside a_this_seens v_this_seenMany v_this_told x1 y1 hy2) gX9_as_X9_isFamily rfl hyV_X9_isFamily ⟨rfl, rfl, (Nat.le_of_ble_eq_true rfl), (Nat.le_of_ble_eq_true rfl)⟩ rfl 0 rfl rfl [0, 1] rfl rfl rfl (Nat.le_of_ble_eq_true rfl) ⟨Nat.zero_le _, Nat.zero_le _⟩ dX9_as_2 ?_
  refine r_if_ne C 11 dX9_as_5 (by decide) hf (fun hf => ?_) (fun hf => ?_)
  · refine r_iload_n C dX9_as_11 rfl 2 rfl ?_
    refine r_i2l C dX9_as_12 ?_
    refine r_lconst C 0 dX9_as_13 (by decide) ?_
    refine r_ldc2 C lk_X9_as_1 dX9_as_14 ?_
    obtain ⟨y3, hy4, hf⟩ := bd_some hf
    refine r_roS_i (As := [.long (Int32.toInt64 x2), .long 0, .long 4]) (rest := []) C (c_X9_in l D cyI cyZ cyW (Int32.toInt64 x2) 0 4 y3 hy4) gX9_as_X9_in rfl hyS_X9_in ⟨rfl, rfl, (Nat.le_of_ble_eq_true rfl), (Nat.le_of_ble_eq_true rfl)⟩ rfl [] rfl rfl rfl (Nat.le_of_ble_eq_true rfl) ⟨Nat.zero_le _, Nat.zero_le _⟩ dX9_as_17 ?_
    refine r_if_ne C 26 dX9_as_20 (by decide) hf (fun hf => ?_) (fun hf => ?_)
    · refine r_aload_n C dX9_as_26 rfl 0 rfl ?_
      refine r_get C in_X9_as_X9 0 rfl rfl 0 (by decide) lk_X9_as_2 rfl rfl dX9_as_27 ?_
      refine r_iconst C 3 dX9_as_30 (by decide) ?_
      refine r_iload_n C dX9_as_31 rfl 1 rfl ?_
      refine r_iadd C dX9_as_32 ?_
      obtain ⟨hi5, hf⟩ := gd_some hf
      refine r_iald C 1 0 rfl rfl hi5 dX9_as_33 ?_
      refine r_istore_n (lv' := [(3, .int (v_this_told (Int32.toNatClampNeg (3 + x1)))), (0, .ref a_this), (1, .int x1), (2, .int x2)]) C dX9_as_34 rfl (by decide) rfl ?_
      refine r_iload_n C dX9_as_35 rfl 3 rfl ?_
      refine r_if_eq C 61 dX9_as_36 (by decide) hf (fun hf => ?_) (fun hf => ?_)
      · exact ST_lv [1, 2] rfl (hb_61 x1 hf)
      · refine r_iload_n C dX9_as_39 rfl 3 rfl ?_
        refine r_iconst C 1 dX9_as_40 (by decide) ?_
        refine r_icmp_ne C 49 dX9_as_41 (by decide) hf (fun hf => ?_) (fun hf => ?_)
        · exact ST_lv [1, 2, 3, 0] rfl (hb_49 x1 x2 (v_this_told (Int32.toNatClampNeg (3 + x1))) hf)
        · refine r_iload_n C dX9_as_44 rfl 0 rfl ?_
          refine r_iconst C 3 dX9_as_45 (by decide) ?_
          refine r_icmp_lt C 61 dX9_as_46 (by decide) hf (fun hf => ?_) (fun hf => ?_)
          · exact ST_lv [1, 2] rfl (hb_61 x1 hf)
          · exact ST_lv [1, 2, 3, 0] rfl (hb_49 x1 x2 (v_this_told (Int32.toNatClampNeg (3 + x1))) hf)
    · refine r_bipush C (-3) dX9_as_23 (by decide) ?_
      rw [← Option.some.inj hf]
      exact r_iret C hr hlk dX9_as_25
  · refine r_bipush C (-2) dX9_as_8 (by decide) ?_
    rw [← Option.some.inj hf]
    exact r_iret C hr hlk dX9_as_10

theorem lk_X9_note_1 : Cond.fieldLink RX9 114 "ParishCoatModel" "undoMany" "I" ∈ wsX9_note := List.mem_of_getElem? (i := 1) rfl
theorem lk_X9_note_2 : Cond.fieldLink RX9 22 "ParishCoatModel" "ahead" "[I" ∈ wsX9_note := List.mem_of_getElem? (i := 2) rfl
theorem lk_X9_note_3 : Cond.fieldLink RX9 13 "ParishCoatModel" "st" "[I" ∈ wsX9_note := List.mem_of_getElem? (i := 3) rfl
theorem in_X9_note_X9 : ∀ w ∈ u_ws RX9 TX9 21, w ∈ wsX9_note := fun _ h => List.mem_cons_of_mem _ (List.mem_append_right _ h)
def f_X9_note_s50 (v_this_st : Nat → Int32) (k_50 : Int32 → Int32 → (Nat → Int32) → Option (Int32 × (Nat → Int32))) (x1 : Int32) (v_this_undoMany : Int32) (v_this_ahead : Nat → Int32) : Option (Int32 × (Nat → Int32)) := if 15 ≤ x1 then (some ((v_this_undoMany + 1), v_this_ahead)) else (gd_ x1 15 (gd_ ((15 * v_this_undoMany) + x1) 120 (k_50 (x1 + 1) v_this_undoMany (upd v_this_ahead (Int32.toNatClampNeg ((15 * v_this_undoMany) + x1)) (v_this_st (Int32.toNatClampNeg x1))))))
def f_X9_note_b50 (v_this_st : Nat → Int32) (n : Nat) : Int32 → Int32 → (Nat → Int32) → Option (Int32 × (Nat → Int32)) := it_ (f_X9_note_s50 v_this_st ) (fun _ _ _ => none) n
def f_X9_note_b48 (v_this_st : Nat → Int32) (v_this_undoMany : Int32) (v_this_ahead : Nat → Int32) : Option (Int32 × (Nat → Int32)) := f_X9_note_b50 v_this_st 5000 0 v_this_undoMany v_this_ahead
def f_X9_note_s11 (v_this_st : Nat → Int32) (k_11 : Int32 → Int32 → (Nat → Int32) → Option (Int32 × (Nat → Int32))) (x1 : Int32) (v_this_undoMany : Int32) (v_this_ahead : Nat → Int32) : Option (Int32 × (Nat → Int32)) := if 105 ≤ x1 then (f_X9_note_b48 v_this_st (v_this_undoMany - 1) v_this_ahead) else (gd_ (x1 + 15) 120 (gd_ x1 120 (k_11 (x1 + 1) v_this_undoMany (upd v_this_ahead (Int32.toNatClampNeg x1) (v_this_ahead (Int32.toNatClampNeg (x1 + 15)))))))
def f_X9_note_b11 (v_this_st : Nat → Int32) (n : Nat) : Int32 → Int32 → (Nat → Int32) → Option (Int32 × (Nat → Int32)) := it_ (f_X9_note_s11 v_this_st ) (fun _ _ _ => none) n
def f_X9_note (v_this_undoMany : Int32) (v_this_ahead : Nat → Int32) (v_this_st : Nat → Int32) : Option (Int32 × (Nat → Int32)) := if v_this_undoMany = 8 then (f_X9_note_b11 v_this_st 5000 0 v_this_undoMany v_this_ahead) else (f_X9_note_b48 v_this_st v_this_undoMany v_this_ahead)
def w_X9_note (cyI cyZ cyW : ClassId) (a_this : Nat) (a_this_told : Nat) (a_this_st : Nat) (a_this_text : Nat) (v_this_letters : Int32) (v_this_place : Int32) (v_this_token : Int32) (v_this_value : Int32) (v_this_begins : Int32) (a_this_read : Nat) (v_this_clauses : Int32) (a_this_ahead : Nat) (v_this_undoMany : Int32) (a_this_isKept : Nat) (a_this_kept : Nat) (v_this_fewestMany : Int32) (v_this_fewestSets : Int32) (v_this_fewestSet : Int32) (v_this_fewestMost : Int32) (a_this_aside : Nat) (a_this_seens : Nat) (v_this_seenMany : Int32) (v_this_ahead : Nat → Int32) (v_this_st : Nat → Int32) : va_W := [(a_this, .inr (9, [.ref a_this_told, .ref a_this_st, .ref a_this_text, .int v_this_letters, .int v_this_place, .int v_this_token, .int v_this_value, .int v_this_begins, .ref a_this_read, .int v_this_clauses, .ref a_this_ahead, .int v_this_undoMany, .ref a_this_isKept, .ref a_this_kept, .int v_this_fewestMany, .int v_this_fewestSets, .int v_this_fewestSet, .int v_this_fewestMost, .ref a_this_aside, .ref a_this_seens, .int v_this_seenMany])), (a_this_ahead, .inl (cyI, 120, .inl v_this_ahead)), (a_this_st, .inl (cyI, 15, .inl v_this_st))]
set_option maxHeartbeats 4000000 in
set_option maxRecDepth 100000 in
theorem c_X9_note (l : Launch) (D : va_G) (cyI cyZ cyW : ClassId) (a_this : Nat) (a_this_told : Nat) (a_this_st : Nat) (a_this_text : Nat) (v_this_letters : Int32) (v_this_place : Int32) (v_this_token : Int32) (v_this_value : Int32) (v_this_begins : Int32) (a_this_read : Nat) (v_this_clauses : Int32) (a_this_ahead : Nat) (v_this_undoMany : Int32) (a_this_isKept : Nat) (a_this_kept : Nat) (v_this_fewestMany : Int32) (v_this_fewestSets : Int32) (v_this_fewestSet : Int32) (v_this_fewestMost : Int32) (a_this_aside : Nat) (a_this_seens : Nat) (v_this_seenMany : Int32) (v_this_ahead : Nat → Int32) (v_this_st : Nat → Int32) (res : Int32 × (Nat → Int32)) (hf : f_X9_note v_this_undoMany v_this_ahead v_this_st = some res) : ∀ sz, Met l yX9_note wsX9_note { frames := 0, cells := 0, slots := 0, locals := 0 } (PCx D (tyG cyI cyZ cyW) [.ref a_this] (w_X9_note cyI cyZ cyW a_this a_this_told a_this_st a_this_text v_this_letters v_this_place v_this_token v_this_value v_this_begins a_this_read v_this_clauses a_this_ahead v_this_undoMany a_this_isKept a_this_kept v_this_fewestMany v_this_fewestSets v_this_fewestSet v_this_fewestMost a_this_aside a_this_seens v_this_seenMany v_this_ahead v_this_st) sz) (QV D (tyG cyI cyZ cyW) (w_X9_note cyI cyZ cyW a_this a_this_told a_this_st a_this_text v_this_letters v_this_place v_this_token v_this_value v_this_begins a_this_read v_this_clauses a_this_ahead v_this_undoMany a_this_isKept a_this_kept v_this_fewestMany v_this_fewestSets v_this_fewestSet v_this_fewestMost a_this_aside a_this_seens v_this_seenMany v_this_ahead v_this_st) sz (w_X9_note cyI cyZ cyW a_this a_this_told a_this_st a_this_text v_this_letters v_this_place v_this_token v_this_value v_this_begins a_this_read v_this_clauses a_this_ahead res.1 a_this_isKept a_this_kept v_this_fewestMany v_this_fewestSets v_this_fewestSet v_this_fewestMost a_this_aside a_this_seens v_this_seenMany res.2 v_this_st)) 0 0 (va_A (w_X9_note cyI cyZ cyW a_this a_this_told a_this_st a_this_text v_this_letters v_this_place v_this_token v_this_value v_this_begins a_this_read v_this_clauses a_this_ahead v_this_undoMany a_this_isKept a_this_kept v_this_fewestMany v_this_fewestSets v_this_fewestSet v_this_fewestMost a_this_aside a_this_seens v_this_seenMany v_this_ahead v_this_st) sz) := by
  intro sz
  refine met_of (cc := cX9_note) (maxL := 2) (ret := none) (lv0 := [(0, .ref a_this)]) (by decide) rfl ⟨(Nat.le_of_ble_eq_true rfl), rfl⟩ ?_
  intro p e s m below meth c C hr hlk hnm hsz
  subst hsz
  have C : CX p s m _ c 2 cX9_note RX9 wsX9_note D (tyG cyI cyZ cyW) _ := C
  obtain ⟨Z, hZ⟩ : ∃ Z : va_W → Nat → LV → List Value → Prop, Z = ST p l e { frames := 0, cells := 0, slots := 0, locals := 0 } s m [.ref a_this].toArray below meth c 2 D (va_A (w_X9_note cyI cyZ cyW a_this a_this_told a_this_st a_this_text v_this_letters v_this_place v_this_token v_this_value v_this_begins a_this_read v_this_clauses a_this_ahead v_this_undoMany a_this_isKept a_this_kept v_this_fewestMany v_this_fewestSets v_this_fewestSet v_this_fewestMost a_this_aside a_this_seens v_this_seenMany v_this_ahead v_this_st) s.heap.size) (MQ below (QV D (tyG cyI cyZ cyW) (w_X9_note cyI cyZ cyW a_this a_this_told a_this_st a_this_text v_this_letters v_this_place v_this_token v_this_value v_this_begins a_this_read v_this_clauses a_this_ahead v_this_undoMany a_this_isKept a_this_kept v_this_fewestMany v_this_fewestSets v_this_fewestSet v_this_fewestMost a_this_aside a_this_seens v_this_seenMany v_this_ahead v_this_st) s.heap.size (w_X9_note cyI cyZ cyW a_this a_this_told a_this_st a_this_text v_this_letters v_this_place v_this_token v_this_value v_this_begins a_this_read v_this_clauses a_this_ahead res.1 a_this_isKept a_this_kept v_this_fewestMany v_this_fewestSets v_this_fewestSet v_this_fewestMost a_this_aside a_this_seens v_this_seenMany res.2 v_this_st)) [.ref a_this].toArray s 0 0 (va_A (w_X9_note cyI cyZ cyW a_this a_this_told a_this_st a_this_text v_this_letters v_this_place v_this_token v_this_value v_this_begins a_this_read v_this_clauses a_this_ahead v_this_undoMany a_this_isKept a_this_kept v_this_fewestMany v_this_fewestSets v_this_fewestSet v_this_fewestMost a_this_aside a_this_seens v_this_seenMany v_this_ahead v_this_st) s.heap.size)) 0 0 := ⟨_, rfl⟩
  have hs_50 : ∀ (k_50 : Int32 → Int32 → (Nat → Int32) → Option (Int32 × (Nat → Int32))), (∀ (x1 : Int32) (v_this_undoMany : Int32) (v_this_ahead : Nat → Int32), k_50 x1 v_this_undoMany v_this_ahead = some res → Z (w_X9_note cyI cyZ cyW a_this a_this_told a_this_st a_this_text v_this_letters v_this_place v_this_token v_this_value v_this_begins a_this_read v_this_clauses a_this_ahead v_this_undoMany a_this_isKept a_this_kept v_this_fewestMany v_this_fewestSets v_this_fewestSet v_this_fewestMost a_this_aside a_this_seens v_this_seenMany v_this_ahead v_this_st) 50 [(0, .ref a_this), (1, .int x1)] []) → ∀ (x1 : Int32) (v_this_undoMany : Int32) (v_this_ahead : Nat → Int32), f_X9_note_s50 v_this_st k_50 x1 v_this_undoMany v_this_ahead = some res → Z (w_X9_note cyI cyZ cyW a_this a_this_told a_this_st a_this_text v_this_letters v_this_place v_this_token v_this_value v_this_begins a_this_read v_this_clauses a_this_ahead v_this_undoMany a_this_isKept a_this_kept v_this_fewestMany v_this_fewestSets v_this_fewestSet v_this_fewestMost a_this_aside a_this_seens v_this_seenMany v_this_ahead v_this_st) 50 [(0, .ref a_this), (1, .int x1)] [] := by
    subst hZ
    intro k_50 hk_50 x1 v_this_undoMany v_this_ahead hf
    refine r_iload_n C dX9_note_50 rfl 1 rfl ?_
    refine r_bipush C 15 dX9_note_51 (by decide) ?_
    refine r_icmp_ge C 82 dX9_note_53 (by decide) hf (fun hf => ?_) (fun hf => ?_)
    · refine r_aload_n C dX9_note_82 rfl 0 rfl ?_
      refine r_dup C dX9_note_83 rfl ?_
      refine r_get C in_X9_note_X9 0 rfl rfl 11 (by decide) lk_X9_note_1 rfl rfl dX9_note_84 ?_
      refine r_iconst C 1 dX9_note_87 (by decide) ?_
      refine r_iadd C dX9_note_88 ?_
      refine r_put (ws' := (w_X9_note cyI cyZ cyW a_this a_this_told a_this_st a_this_text v_this_letters v_this_place v_this_token v_this_value v_this_begins a_this_read v_this_clauses a_this_ahead (v_this_undoMany + 1) a_this_isKept a_this_kept v_this_fewestMany v_this_fewestSets v_this_fewestSet v_this_fewestMost a_this_aside a_this_seens v_this_seenMany v_this_ahead v_this_st)) C in_X9_note_X9 tyX9 tyX9_ok nmX9 0 rfl rfl 11 (by decide) lk_X9_note_1 rfl rfl rfl rfl (Nat.le_of_ble_eq_true rfl) rfl dX9_note_89 ?_
      rw [← Option.some.inj hf]
      exact r_vret C hr hlk dX9_note_92
    · refine r_aload_n C dX9_note_56 rfl 0 rfl ?_
      refine r_get C in_X9_note_X9 0 rfl rfl 10 (by decide) lk_X9_note_2 rfl rfl dX9_note_57 ?_
      refine r_bipush C 15 dX9_note_60 (by decide) ?_
      refine r_aload_n C dX9_note_62 rfl 0 rfl ?_
      refine r_get C in_X9_note_X9 0 rfl rfl 11 (by decide) lk_X9_note_1 rfl rfl dX9_note_63 ?_
      refine r_imul C dX9_note_66 ?_
      refine r_iload_n C dX9_note_67 rfl 1 rfl ?_
      refine r_iadd C dX9_note_68 ?_
      refine r_aload_n C dX9_note_69 rfl 0 rfl ?_
      refine r_get C in_X9_note_X9 0 rfl rfl 1 (by decide) lk_X9_note_3 rfl rfl dX9_note_70 ?_
      refine r_iload_n C dX9_note_73 rfl 1 rfl ?_
      obtain ⟨hi3, hf⟩ := gd_some hf
      refine r_iald C 2 0 rfl rfl hi3 dX9_note_74 ?_
      obtain ⟨hi4, hf⟩ := gd_some hf
      refine r_iast (ws' := (w_X9_note cyI cyZ cyW a_this a_this_told a_this_st a_this_text v_this_letters v_this_place v_this_token v_this_value v_this_begins a_this_read v_this_clauses a_this_ahead v_this_undoMany a_this_isKept a_this_kept v_this_fewestMany v_this_fewestSets v_this_fewestSet v_this_fewestMost a_this_aside a_this_seens v_this_seenMany (upd v_this_ahead (Int32.toNatClampNeg ((15 * v_this_undoMany) + x1)) (v_this_st (Int32.toNatClampNeg x1))) v_this_st)) C 1 0 rfl rfl hi4 rfl dX9_note_75 ?_
      refine r_iinc (v := 1) (k := 1) (lv' := [(1, .int (x1 + 1)), (0, .ref a_this)]) C dX9_note_76 rfl (by decide) (by decide) rfl ?_
      refine r_goto C 50 dX9_note_79 (by decide) ?_
      exact ST_lv [1, 0] rfl (hk_50 (x1 + 1) v_this_undoMany (upd v_this_ahead (Int32.toNatClampNeg ((15 * v_this_undoMany) + x1)) (v_this_st (Int32.toNatClampNeg x1))) hf)
  have hb_50 : ∀ (n : Nat) (x1 : Int32) (v_this_undoMany : Int32) (v_this_ahead : Nat → Int32), f_X9_note_b50 v_this_st n x1 v_this_undoMany v_this_ahead = some res → Z (w_X9_note cyI cyZ cyW a_this a_this_told a_this_st a_this_text v_this_letters v_this_place v_this_token v_this_value v_this_begins a_this_read v_this_clauses a_this_ahead v_this_undoMany a_this_isKept a_this_kept v_this_fewestMany v_this_fewestSets v_this_fewestSet v_this_fewestMost a_this_aside a_this_seens v_this_seenMany v_this_ahead v_this_st) 50 [(0, .ref a_this), (1, .int x1)] [] := by
    intro  n
    induction n with
    | zero => intro x1 v_this_undoMany v_this_ahead hf; exact nn_ hf
    | succ n ih => exact fun x1 v_this_undoMany v_this_ahead hf => hs_50 _ ih x1 v_this_undoMany v_this_ahead hf
  have hb_48 : ∀ (v_this_undoMany : Int32) (v_this_ahead : Nat → Int32), f_X9_note_b48 v_this_st v_this_undoMany v_this_ahead = some res → Z (w_X9_note cyI cyZ cyW a_this a_this_told a_this_st a_this_text v_this_letters v_this_place v_this_token v_this_value v_this_begins a_this_read v_this_clauses a_this_ahead v_this_undoMany a_this_isKept a_this_kept v_this_fewestMany v_this_fewestSets v_this_fewestSet v_this_fewestMost a_this_aside a_this_seens v_this_seenMany v_this_ahead v_this_st) 48 [(0, .ref a_this)] [] := by
    subst hZ
    intro v_this_undoMany v_this_ahead hf
    refine r_iconst C 0 dX9_note_48 (by decide) ?_
    refine r_istore_n (lv' := [(1, .int 0), (0, .ref a_this)]) C dX9_note_49 rfl (by decide) rfl ?_
    exact ST_lv [1, 0] rfl (hb_50 5000 0 v_this_undoMany v_this_ahead hf)
  have hs_11 : ∀ (k_11 : Int32 → Int32 → (Nat → Int32) → Option (Int32 × (Nat → Int32))), (∀ (x1 : Int32) (v_this_undoMany : Int32) (v_this_ahead : Nat → Int32), k_11 x1 v_this_undoMany v_this_ahead = some res → Z (w_X9_note cyI cyZ cyW a_this a_this_told a_this_st a_this_text v_this_letters v_this_place v_this_token v_this_value v_this_begins a_this_read v_this_clauses a_this_ahead v_this_undoMany a_this_isKept a_this_kept v_this_fewestMany v_this_fewestSets v_this_fewestSet v_this_fewestMost a_this_aside a_this_seens v_this_seenMany v_this_ahead v_this_st) 11 [(0, .ref a_this), (1, .int x1)] []) → ∀ (x1 : Int32) (v_this_undoMany : Int32) (v_this_ahead : Nat → Int32), f_X9_note_s11 v_this_st k_11 x1 v_this_undoMany v_this_ahead = some res → Z (w_X9_note cyI cyZ cyW a_this a_this_told a_this_st a_this_text v_this_letters v_this_place v_this_token v_this_value v_this_begins a_this_read v_this_clauses a_this_ahead v_this_undoMany a_this_isKept a_this_kept v_this_fewestMany v_this_fewestSets v_this_fewestSet v_this_fewestMost a_this_aside a_this_seens v_this_seenMany v_this_ahead v_this_st) 11 [(0, .ref a_this), (1, .int x1)] [] := by
    subst hZ
    intro k_11 hk_11 x1 v_this_undoMany v_this_ahead hf
    refine r_iload_n C dX9_note_11 rfl 1 rfl ?_
    refine r_bipush C 105 dX9_note_12 (by decide) ?_
    refine r_icmp_ge C 38 dX9_note_14 (by decide) hf (fun hf => ?_) (fun hf => ?_)
    · refine r_aload_n C dX9_note_38 rfl 0 rfl ?_
      refine r_dup C dX9_note_39 rfl ?_
      refine r_get C in_X9_note_X9 0 rfl rfl 11 (by decide) lk_X9_note_1 rfl rfl dX9_note_40 ?_
      refine r_iconst C 1 dX9_note_43 (by decide) ?_
      refine r_isub C dX9_note_44 ?_
      refine r_put (ws' := (w_X9_note cyI cyZ cyW a_this a_this_told a_this_st a_this_text v_this_letters v_this_place v_this_token v_this_value v_this_begins a_this_read v_this_clauses a_this_ahead (v_this_undoMany - 1) a_this_isKept a_this_kept v_this_fewestMany v_this_fewestSets v_this_fewestSet v_this_fewestMost a_this_aside a_this_seens v_this_seenMany v_this_ahead v_this_st)) C in_X9_note_X9 tyX9 tyX9_ok nmX9 0 rfl rfl 11 (by decide) lk_X9_note_1 rfl rfl rfl rfl (Nat.le_of_ble_eq_true rfl) rfl dX9_note_45 ?_
      exact ST_lv [0] rfl (hb_48 (v_this_undoMany - 1) v_this_ahead hf)
    · refine r_aload_n C dX9_note_17 rfl 0 rfl ?_
      refine r_get C in_X9_note_X9 0 rfl rfl 10 (by decide) lk_X9_note_2 rfl rfl dX9_note_18 ?_
      refine r_iload_n C dX9_note_21 rfl 1 rfl ?_
      refine r_aload_n C dX9_note_22 rfl 0 rfl ?_
      refine r_get C in_X9_note_X9 0 rfl rfl 10 (by decide) lk_X9_note_2 rfl rfl dX9_note_23 ?_
      refine r_iload_n C dX9_note_26 rfl 1 rfl ?_
      refine r_bipush C 15 dX9_note_27 (by decide) ?_
      refine r_iadd C dX9_note_29 ?_
      obtain ⟨hi1, hf⟩ := gd_some hf
      refine r_iald C 1 0 rfl rfl hi1 dX9_note_30 ?_
      obtain ⟨hi2, hf⟩ := gd_some hf
      refine r_iast (ws' := (w_X9_note cyI cyZ cyW a_this a_this_told a_this_st a_this_text v_this_letters v_this_place v_this_token v_this_value v_this_begins a_this_read v_this_clauses a_this_ahead v_this_undoMany a_this_isKept a_this_kept v_this_fewestMany v_this_fewestSets v_this_fewestSet v_this_fewestMost a_this_aside a_this_seens v_this_seenMany (upd v_this_ahead (Int32.toNatClampNeg x1) (v_this_ahead (Int32.toNatClampNeg (x1 + 15)))) v_this_st)) C 1 0 rfl rfl hi2 rfl dX9_note_31 ?_
      refine r_iinc (v := 1) (k := 1) (lv' := [(1, .int (x1 + 1)), (0, .ref a_this)]) C dX9_note_32 rfl (by decide) (by decide) rfl ?_
      refine r_goto C 11 dX9_note_35 (by decide) ?_
      exact ST_lv [1, 0] rfl (hk_11 (x1 + 1) v_this_undoMany (upd v_this_ahead (Int32.toNatClampNeg x1) (v_this_ahead (Int32.toNatClampNeg (x1 + 15)))) hf)
  have hb_11 : ∀ (n : Nat) (x1 : Int32) (v_this_undoMany : Int32) (v_this_ahead : Nat → Int32), f_X9_note_b11 v_this_st n x1 v_this_undoMany v_this_ahead = some res → Z (w_X9_note cyI cyZ cyW a_this a_this_told a_this_st a_this_text v_this_letters v_this_place v_this_token v_this_value v_this_begins a_this_read v_this_clauses a_this_ahead v_this_undoMany a_this_isKept a_this_kept v_this_fewestMany v_this_fewestSets v_this_fewestSet v_this_fewestMost a_this_aside a_this_seens v_this_seenMany v_this_ahead v_this_st) 11 [(0, .ref a_this), (1, .int x1)] [] := by
    intro  n
    induction n with
    | zero => intro x1 v_this_undoMany v_this_ahead hf; exact nn_ hf
    | succ n ih => exact fun x1 v_this_undoMany v_this_ahead hf => hs_11 _ ih x1 v_this_undoMany v_this_ahead hf
  subst hZ
  refine r_aload_n C dX9_note_0 rfl 0 rfl ?_
  refine r_get C in_X9_note_X9 0 rfl rfl 11 (by decide) lk_X9_note_1 rfl rfl dX9_note_1 ?_
  refine r_bipush C 8 dX9_note_4 (by decide) ?_
  refine r_icmp_ne C 48 dX9_note_6 (by decide) hf (fun hf => ?_) (fun hf => ?_)
  · exact ST_lv [0] rfl (hb_48 v_this_undoMany v_this_ahead hf)
  · refine r_iconst C 0 dX9_note_9 (by decide) ?_
    refine r_istore_n (lv' := [(1, .int 0), (0, .ref a_this)]) C dX9_note_10 rfl (by decide) rfl ?_
    exact ST_lv [1, 0] rfl (hb_11 5000 0 v_this_undoMany v_this_ahead hf)

theorem lk_X9_favour_1 : Cond.fieldLink RX9 13 "ParishCoatModel" "st" "[I" ∈ wsX9_favour := List.mem_of_getElem? (i := 1) rfl
theorem in_X9_favour_X9 : ∀ w ∈ u_ws RX9 TX9 21, w ∈ wsX9_favour := fun _ h => List.mem_cons_of_mem _ (List.mem_append_right _ h)
theorem hyV_X9_note : yX9_note.cls = RX9 ∧ yX9_note.cls ≠ "java/lang/invoke/MethodHandle" ∧ yX9_note.cls ≠ "java/lang/invoke/VarHandle" ∧ (parseMethodDescriptor yX9_note.desc).map (fun d => d.parameters.length) = some 0 := by decide +kernel
theorem hyS_X9_note : yX9_note.cls ≠ "java/lang/invoke/MethodHandle" ∧ yX9_note.cls ≠ "java/lang/invoke/VarHandle" ∧ (parseMethodDescriptor yX9_note.desc).map (fun d => d.parameters.length) = some 0 := by decide +kernel
def f_X9_favour (v_this_undoMany : Int32) (v_this_told : Nat → Int32) (v_this_st : Nat → Int32) (v_this_ahead : Nat → Int32) (x1 : Int32) (x2 : Int32) (x3 : Int32) : Option (Int32 × Int32 × (Nat → Int32) × (Nat → Int32)) := (f_X9_isFamily v_this_told x1).bind fun y1 => if y1 = 0 then (some ((-2), v_this_undoMany, v_this_st, v_this_ahead)) else ((f_X9_isFamily v_this_told x2).bind fun y3 => if y3 = 0 then (some ((-2), v_this_undoMany, v_this_st, v_this_ahead)) else (if x1 = x2 then (some ((-2), v_this_undoMany, v_this_st, v_this_ahead)) else ((f_X9_in (Int32.toInt64 x3) 0 1).bind fun y5 => if y5 = 0 then (some ((-3), v_this_undoMany, v_this_st, v_this_ahead)) else ((f_X9_isFrozen v_this_st x1).bind fun y7 => if y7 = 0 then ((f_X9_isFrozen v_this_st x2).bind fun y9 => if y9 = 0 then (bd2 (f_X9_note v_this_undoMany v_this_ahead v_this_st) (fun y11_0 y11_1 => gd_ (7 + x1) 15 (gd_ (7 + x1) 15 (gd_ (7 + x1) 15 (some ((((v_this_st (Int32.toNatClampNeg (7 + x1))) >>> (x2 &&& 31)) &&& 1), y11_0, (upd v_this_st (Int32.toNatClampNeg (7 + x1)) (((v_this_st (Int32.toNatClampNeg (7 + x1))) &&& (((1 : Int32) <<< (x2 &&& 31)) ^^^ (-1))) ||| (x3 <<< (x2 &&& 31)))), y11_1)))))) else (some ((-4), v_this_undoMany, v_this_st, v_this_ahead))) else (some ((-4), v_this_undoMany, v_this_st, v_this_ahead))))))
def w_X9_favour (cyI cyZ cyW : ClassId) (a_this : Nat) (a_this_told : Nat) (a_this_st : Nat) (a_this_text : Nat) (v_this_letters : Int32) (v_this_place : Int32) (v_this_token : Int32) (v_this_value : Int32) (v_this_begins : Int32) (a_this_read : Nat) (v_this_clauses : Int32) (a_this_ahead : Nat) (v_this_undoMany : Int32) (a_this_isKept : Nat) (a_this_kept : Nat) (v_this_fewestMany : Int32) (v_this_fewestSets : Int32) (v_this_fewestSet : Int32) (v_this_fewestMost : Int32) (a_this_aside : Nat) (a_this_seens : Nat) (v_this_seenMany : Int32) (v_this_told : Nat → Int32) (v_this_st : Nat → Int32) (v_this_ahead : Nat → Int32) : va_W := [(a_this, .inr (9, [.ref a_this_told, .ref a_this_st, .ref a_this_text, .int v_this_letters, .int v_this_place, .int v_this_token, .int v_this_value, .int v_this_begins, .ref a_this_read, .int v_this_clauses, .ref a_this_ahead, .int v_this_undoMany, .ref a_this_isKept, .ref a_this_kept, .int v_this_fewestMany, .int v_this_fewestSets, .int v_this_fewestSet, .int v_this_fewestMost, .ref a_this_aside, .ref a_this_seens, .int v_this_seenMany])), (a_this_told, .inl (cyI, 37, .inl v_this_told)), (a_this_st, .inl (cyI, 15, .inl v_this_st)), (a_this_ahead, .inl (cyI, 120, .inl v_this_ahead))]
set_option maxHeartbeats 4000000 in
set_option maxRecDepth 100000 in
theorem c_X9_favour (l : Launch) (D : va_G) (cyI cyZ cyW : ClassId) (a_this : Nat) (a_this_told : Nat) (a_this_st : Nat) (a_this_text : Nat) (v_this_letters : Int32) (v_this_place : Int32) (v_this_token : Int32) (v_this_value : Int32) (v_this_begins : Int32) (a_this_read : Nat) (v_this_clauses : Int32) (a_this_ahead : Nat) (v_this_undoMany : Int32) (a_this_isKept : Nat) (a_this_kept : Nat) (v_this_fewestMany : Int32) (v_this_fewestSets : Int32) (v_this_fewestSet : Int32) (v_this_fewestMost : Int32) (a_this_aside : Nat) (a_this_seens : Nat) (v_this_seenMany : Int32) (v_this_told : Nat → Int32) (v_this_st : Nat → Int32) (v_this_ahead : Nat → Int32) (x1 : Int32) (x2 : Int32) (x3 : Int32) (res : Int32 × Int32 × (Nat → Int32) × (Nat → Int32)) (hf : f_X9_favour v_this_undoMany v_this_told v_this_st v_this_ahead x1 x2 x3 = some res) : ∀ sz, Met l yX9_favour wsX9_favour { frames := 2, cells := 0, slots := 0, locals := 46 } (PCx D (tyG cyI cyZ cyW) [.ref a_this, .int x1, .int x2, .int x3] (w_X9_favour cyI cyZ cyW a_this a_this_told a_this_st a_this_text v_this_letters v_this_place v_this_token v_this_value v_this_begins a_this_read v_this_clauses a_this_ahead v_this_undoMany a_this_isKept a_this_kept v_this_fewestMany v_this_fewestSets v_this_fewestSet v_this_fewestMost a_this_aside a_this_seens v_this_seenMany v_this_told v_this_st v_this_ahead) sz) (QI D (tyG cyI cyZ cyW) (w_X9_favour cyI cyZ cyW a_this a_this_told a_this_st a_this_text v_this_letters v_this_place v_this_token v_this_value v_this_begins a_this_read v_this_clauses a_this_ahead v_this_undoMany a_this_isKept a_this_kept v_this_fewestMany v_this_fewestSets v_this_fewestSet v_this_fewestMost a_this_aside a_this_seens v_this_seenMany v_this_told v_this_st v_this_ahead) sz res.1 (w_X9_favour cyI cyZ cyW a_this a_this_told a_this_st a_this_text v_this_letters v_this_place v_this_token v_this_value v_this_begins a_this_read v_this_clauses a_this_ahead res.2.1 a_this_isKept a_this_kept v_this_fewestMany v_this_fewestSets v_this_fewestSet v_this_fewestMost a_this_aside a_this_seens v_this_seenMany v_this_told res.2.2.1 res.2.2.2)) 0 0 (va_A (w_X9_favour cyI cyZ cyW a_this a_this_told a_this_st a_this_text v_this_letters v_this_place v_this_token v_this_value v_this_begins a_this_read v_this_clauses a_this_ahead v_this_undoMany a_this_isKept a_this_kept v_this_fewestMany v_this_fewestSets v_this_fewestSet v_this_fewestMost a_this_aside a_this_seens v_this_seenMany v_this_told v_this_st v_this_ahead) sz) := by
  intro sz
  refine met_of (cc := cX9_favour) (maxL := 5) (ret := (some .int)) (lv0 := [(0, .ref a_this), (1, .int x1), (2, .int x2), (3, .int x3)]) (by decide) rfl ⟨(Nat.le_of_ble_eq_true rfl), rfl⟩ ?_
  intro p e s m below meth c C hr hlk hnm hsz
  subst hsz
  have C : CX p s m _ c 5 cX9_favour RX9 wsX9_favour D (tyG cyI cyZ cyW) _ := C
  refine r_aload_n C dX9_favour_0 rfl 0 rfl ?_
  refine r_iload_n C dX9_favour_1 rfl 1 rfl ?_
  obtain ⟨y1, hy2, hf⟩ := bd_some hf
  refine r_roV_i (As := [.int x1]) (rest := []) C (c_X9_isFamily l D cyI cyZ cyW a_this a_this_told a_this_st a_this_text v_this_letters v_this_place v_this_token v_this_value v_this_begins a_this_read v_this_clauses a_this_ahead v_this_undoMany a_this_isKept a_this_kept v_this_fewestMany v_this_fewestSets v_this_fewestSet v_this_fewestMost a_this_aside a_this_seens v_this_seenMany v_this_told x1 y1 hy2) gX9_favour_X9_isFamily rfl hyV_X9_isFamily ⟨rfl, rfl, (Nat.le_of_ble_eq_true rfl), (Nat.le_of_ble_eq_true rfl)⟩ rfl 0 rfl rfl [0, 1] rfl rfl rfl (Nat.le_of_ble_eq_true rfl) ⟨Nat.zero_le _, Nat.zero_le _⟩ dX9_favour_2 ?_
  refine r_if_eq C 21 dX9_favour_5 (by decide) hf (fun hf => ?_) (fun hf => ?_)
  · refine r_bipush C (-2) dX9_favour_21 (by decide) ?_
    rw [← Option.some.inj hf]
    exact r_iret C hr hlk dX9_favour_23
  · refine r_aload_n C dX9_favour_8 rfl 0 rfl ?_
    refine r_iload_n C dX9_favour_9 rfl 2 rfl ?_
    obtain ⟨y3, hy4, hf⟩ := bd_some hf
    refine r_roV_i (As := [.int x2]) (rest := []) C (c_X9_isFamily l D cyI cyZ cyW a_this a_this_told a_this_st a_this_text v_this_letters v_this_place v_this_token v_this_value v_this_begins a_this_read v_this_clauses a_this_ahead v_this_undoMany a_this_isKept a_this_kept v_this_fewestMany v_this_fewestSets v_this_fewestSet v_this_fewestMost a_this_aside a_this_seens v_this_seenMany v_this_told x2 y3 hy4) gX9_favour_X9_isFamily rfl hyV_X9_isFamily ⟨rfl, rfl, (Nat.le_of_ble_eq_true rfl), (Nat.le_of_ble_eq_true rfl)⟩ rfl 0 rfl rfl [0, 1] rfl rfl rfl (Nat.le_of_ble_eq_true rfl) ⟨Nat.zero_le _, Nat.zero_le _⟩ dX9_favour_10 ?_
    refine r_if_eq C 21 dX9_favour_13 (by decide) hf (fun hf => ?_) (fun hf => ?_)
    · refine r_bipush C (-2) dX9_favour_21 (by decide) ?_
      rw [← Option.some.inj hf]
      exact r_iret C hr hlk dX9_favour_23
    · refine r_iload_n C dX9_favour_16 rfl 1 rfl ?_
      refine r_iload_n C dX9_favour_17 rfl 2 rfl ?_
      refine r_icmp_ne C 24 dX9_favour_18 (by decide) hf (fun hf => ?_) (fun hf => ?_)
      · refine r_iload_n C dX9_favour_24 rfl 3 rfl ?_
        refine r_i2l C dX9_favour_25 ?_
        refine r_lconst C 0 dX9_favour_26 (by decide) ?_
        refine r_lconst C 1 dX9_favour_27 (by decide) ?_
        obtain ⟨y5, hy6, hf⟩ := bd_some hf
        refine r_roS_i (As := [.long (Int32.toInt64 x3), .long 0, .long 1]) (rest := []) C (c_X9_in l D cyI cyZ cyW (Int32.toInt64 x3) 0 1 y5 hy6) gX9_favour_X9_in rfl hyS_X9_in ⟨rfl, rfl, (Nat.le_of_ble_eq_true rfl), (Nat.le_of_ble_eq_true rfl)⟩ rfl [] rfl rfl rfl (Nat.le_of_ble_eq_true rfl) ⟨Nat.zero_le _, Nat.zero_le _⟩ dX9_favour_28 ?_
        refine r_if_ne C 37 dX9_favour_31 (by decide) hf (fun hf => ?_) (fun hf => ?_)
        · refine r_aload_n C dX9_favour_37 rfl 0 rfl ?_
          refine r_iload_n C dX9_favour_38 rfl 1 rfl ?_
          obtain ⟨y7, hy8, hf⟩ := bd_some hf
          refine r_roV_i (As := [.int x1]) (rest := []) C (c_X9_isFrozen l D cyI cyZ cyW a_this a_this_told a_this_st a_this_text v_this_letters v_this_place v_this_token v_this_value v_this_begins a_this_read v_this_clauses a_this_ahead v_this_undoMany a_this_isKept a_this_kept v_this_fewestMany v_this_fewestSets v_this_fewestSet v_this_fewestMost a_this_aside a_this_seens v_this_seenMany v_this_st x1 y7 hy8) gX9_favour_X9_isFrozen rfl hyV_X9_isFrozen ⟨rfl, rfl, (Nat.le_of_ble_eq_true rfl), (Nat.le_of_ble_eq_true rfl)⟩ rfl 0 rfl rfl [0, 2] rfl rfl rfl (Nat.le_of_ble_eq_true rfl) ⟨Nat.zero_le _, Nat.zero_le _⟩ dX9_favour_39 ?_
          refine r_if_ne C 53 dX9_favour_42 (by decide) hf (fun hf => ?_) (fun hf => ?_)
          · refine r_bipush C (-4) dX9_favour_53 (by decide) ?_
            rw [← Option.some.inj hf]
            exact r_iret C hr hlk dX9_favour_55
          · refine r_aload_n C dX9_favour_45 rfl 0 rfl ?_
            refine r_iload_n C dX9_favour_46 rfl 2 rfl ?_
            obtain ⟨y9, hy10, hf⟩ := bd_some hf
            refine r_roV_i (As := [.int x2]) (rest := []) C (c_X9_isFrozen l D cyI cyZ cyW a_this a_this_told a_this_st a_this_text v_this_letters v_this_place v_this_token v_this_value v_this_begins a_this_read v_this_clauses a_this_ahead v_this_undoMany a_this_isKept a_this_kept v_this_fewestMany v_this_fewestSets v_this_fewestSet v_this_fewestMost a_this_aside a_this_seens v_this_seenMany v_this_st x2 y9 hy10) gX9_favour_X9_isFrozen rfl hyV_X9_isFrozen ⟨rfl, rfl, (Nat.le_of_ble_eq_true rfl), (Nat.le_of_ble_eq_true rfl)⟩ rfl 0 rfl rfl [0, 2] rfl rfl rfl (Nat.le_of_ble_eq_true rfl) ⟨Nat.zero_le _, Nat.zero_le _⟩ dX9_favour_47 ?_
            refine r_if_eq C 56 dX9_favour_50 (by decide) hf (fun hf => ?_) (fun hf => ?_)
            · refine r_aload_n C dX9_favour_56 rfl 0 rfl ?_
              obtain ⟨y11_0, y11_1, hy12, hf⟩ := bd2_some hf
              refine r_callV_v (As := []) (rest := []) (ws' := (w_X9_favour cyI cyZ cyW a_this a_this_told a_this_st a_this_text v_this_letters v_this_place v_this_token v_this_value v_this_begins a_this_read v_this_clauses a_this_ahead y11_0 a_this_isKept a_this_kept v_this_fewestMany v_this_fewestSets v_this_fewestSet v_this_fewestMost a_this_aside a_this_seens v_this_seenMany v_this_told v_this_st y11_1)) C (c_X9_note l D cyI cyZ cyW a_this a_this_told a_this_st a_this_text v_this_letters v_this_place v_this_token v_this_value v_this_begins a_this_read v_this_clauses a_this_ahead v_this_undoMany a_this_isKept a_this_kept v_this_fewestMany v_this_fewestSets v_this_fewestSet v_this_fewestMost a_this_aside a_this_seens v_this_seenMany v_this_ahead v_this_st (y11_0, y11_1) hy12) gX9_favour_X9_note rfl hyV_X9_note ⟨rfl, rfl, (Nat.le_of_ble_eq_true rfl), (Nat.le_of_ble_eq_true rfl)⟩ rfl 0 rfl rfl [0, 3, 2] rfl rfl rfl rfl rfl (Nat.le_of_ble_eq_true rfl) ⟨Nat.zero_le _, Nat.zero_le _⟩ dX9_favour_57 ?_
              refine r_aload_n C dX9_favour_60 rfl 0 rfl ?_
              refine r_get C in_X9_favour_X9 0 rfl rfl 1 (by decide) lk_X9_favour_1 rfl rfl dX9_favour_61 ?_
              refine r_bipush C 7 dX9_favour_64 (by decide) ?_
              refine r_iload_n C dX9_favour_66 rfl 1 rfl ?_
              refine r_iadd C dX9_favour_67 ?_
              obtain ⟨hi13, hf⟩ := gd_some hf
              refine r_iald C 2 0 rfl rfl hi13 dX9_favour_68 ?_
              refine r_iload_n C dX9_favour_69 rfl 2 rfl ?_
              refine r_ishr C dX9_favour_70 ?_
              refine r_iconst C 1 dX9_favour_71 (by decide) ?_
              refine r_iand C dX9_favour_72 ?_
              refine r_istore (lv' := [(4, .int (((v_this_st (Int32.toNatClampNeg (7 + x1))) >>> (x2 &&& 31)) &&& 1)), (0, .ref a_this), (1, .int x1), (2, .int x2), (3, .int x3)]) C dX9_favour_73 (by decide) rfl ?_
              refine r_aload_n C dX9_favour_75 rfl 1 rfl ?_
              refine r_get C in_X9_favour_X9 0 rfl rfl 1 (by decide) lk_X9_favour_1 rfl rfl dX9_favour_76 ?_
              refine r_bipush C 7 dX9_favour_79 (by decide) ?_
              refine r_iload_n C dX9_favour_81 rfl 2 rfl ?_
              refine r_iadd C dX9_favour_82 ?_
              refine r_aload_n C dX9_favour_83 rfl 1 rfl ?_
              refine r_get C in_X9_favour_X9 0 rfl rfl 1 (by decide) lk_X9_favour_1 rfl rfl dX9_favour_84 ?_
              refine r_bipush C 7 dX9_favour_87 (by decide) ?_
              refine r_iload_n C dX9_favour_89 rfl 2 rfl ?_
              refine r_iadd C dX9_favour_90 ?_
              obtain ⟨hi14, hf⟩ := gd_some hf
              refine r_iald C 2 0 rfl rfl hi14 dX9_favour_91 ?_
              refine r_iconst C 1 dX9_favour_92 (by decide) ?_
              refine r_iload_n C dX9_favour_93 rfl 3 rfl ?_
              refine r_ishl C dX9_favour_94 ?_
              refine r_iconst C (-1) dX9_favour_95 (by decide) ?_
              refine r_ixor C dX9_favour_96 ?_
              refine r_iand C dX9_favour_97 ?_
              refine r_iload_n C dX9_favour_98 rfl 4 rfl ?_
              refine r_iload_n C dX9_favour_99 rfl 3 rfl ?_
              refine r_ishl C dX9_favour_100 ?_
              refine r_ior C dX9_favour_101 ?_
              obtain ⟨hi15, hf⟩ := gd_some hf
              refine r_iast (ws' := (w_X9_favour cyI cyZ cyW a_this a_this_told a_this_st a_this_text v_this_letters v_this_place v_this_token v_this_value v_this_begins a_this_read v_this_clauses a_this_ahead y11_0 a_this_isKept a_this_kept v_this_fewestMany v_this_fewestSets v_this_fewestSet v_this_fewestMost a_this_aside a_this_seens v_this_seenMany v_this_told (upd v_this_st (Int32.toNatClampNeg (7 + x1)) (((v_this_st (Int32.toNatClampNeg (7 + x1))) &&& (((1 : Int32) <<< (x2 &&& 31)) ^^^ (-1))) ||| (x3 <<< (x2 &&& 31)))) y11_1)) C 2 0 rfl rfl hi15 rfl dX9_favour_102 ?_
              refine r_iload C dX9_favour_103 0 rfl ?_
              rw [← Option.some.inj hf]
              exact r_iret C hr hlk dX9_favour_105
            · refine r_bipush C (-4) dX9_favour_53 (by decide) ?_
              rw [← Option.some.inj hf]
              exact r_iret C hr hlk dX9_favour_55
        · refine r_bipush C (-3) dX9_favour_34 (by decide) ?_
          rw [← Option.some.inj hf]
          exact r_iret C hr hlk dX9_favour_36
      · refine r_bipush C (-2) dX9_favour_21 (by decide) ?_
        rw [← Option.some.inj hf]
        exact r_iret C hr hlk dX9_favour_23

theorem lk_X9_oneDay_1 : Cond.fieldLink RX9 7 "ParishCoatModel" "told" "[I" ∈ wsX9_oneDay := List.mem_of_getElem? (i := 1) rfl
theorem lk_X9_oneDay_2 : Cond.fieldLink RX9 13 "ParishCoatModel" "st" "[I" ∈ wsX9_oneDay := List.mem_of_getElem? (i := 2) rfl
theorem in_X9_oneDay_X9 : ∀ w ∈ u_ws RX9 TX9 21, w ∈ wsX9_oneDay := fun _ h => List.mem_cons_of_mem _ (List.mem_append_right _ h)
theorem hyV_X9_coldNow : yX9_coldNow.cls = RX9 ∧ yX9_coldNow.cls ≠ "java/lang/invoke/MethodHandle" ∧ yX9_coldNow.cls ≠ "java/lang/invoke/VarHandle" ∧ (parseMethodDescriptor yX9_coldNow.desc).map (fun d => d.parameters.length) = some 0 := by decide +kernel
theorem hyS_X9_coldNow : yX9_coldNow.cls ≠ "java/lang/invoke/MethodHandle" ∧ yX9_coldNow.cls ≠ "java/lang/invoke/VarHandle" ∧ (parseMethodDescriptor yX9_coldNow.desc).map (fun d => d.parameters.length) = some 0 := by decide +kernel
theorem hyV_X9_isCarried : yX9_isCarried.cls = RX9 ∧ yX9_isCarried.cls ≠ "java/lang/invoke/MethodHandle" ∧ yX9_isCarried.cls ≠ "java/lang/invoke/VarHandle" ∧ (parseMethodDescriptor yX9_isCarried.desc).map (fun d => d.parameters.length) = some 1 := by decide +kernel
theorem hyS_X9_isCarried : yX9_isCarried.cls ≠ "java/lang/invoke/MethodHandle" ∧ yX9_isCarried.cls ≠ "java/lang/invoke/VarHandle" ∧ (parseMethodDescriptor yX9_isCarried.desc).map (fun d => d.parameters.length) = some 1 := by decide +kernel
theorem hyV_X9_warmBy : yX9_warmBy.cls = RX9 ∧ yX9_warmBy.cls ≠ "java/lang/invoke/MethodHandle" ∧ yX9_warmBy.cls ≠ "java/lang/invoke/VarHandle" ∧ (parseMethodDescriptor yX9_warmBy.desc).map (fun d => d.parameters.length) = some 1 := by decide +kernel
theorem hyS_X9_warmBy : yX9_warmBy.cls ≠ "java/lang/invoke/MethodHandle" ∧ yX9_warmBy.cls ≠ "java/lang/invoke/VarHandle" ∧ (parseMethodDescriptor yX9_warmBy.desc).map (fun d => d.parameters.length) = some 1 := by decide +kernel
def f_X9_oneDay_b184 (v_this_told : Nat → Int32) (k_56 : Int32 → Int32 → Int32 → Int32 → Int32 → Int32 → (Nat → Int32) → Option (Int32 × (Nat → Int32))) (x1 : Int32) (x2 : Int32) (x3 : Int32) (x4 : Int32) (x5 : Int32) (x6 : Int32) (v_this_st : Nat → Int32) : Option (Int32 × (Nat → Int32)) := k_56 x1 x2 x3 x4 x5 (x6 + 1) v_this_st
def f_X9_oneDay_b181 (v_this_told : Nat → Int32) (k_56 : Int32 → Int32 → Int32 → Int32 → Int32 → Int32 → (Nat → Int32) → Option (Int32 × (Nat → Int32))) (x1 : Int32) (x2 : Int32) (x3 : Int32) (x4 : Int32) (x6 : Int32) (s0 : Int32) (s1 : Int32) (v_this_st : Nat → Int32) : Option (Int32 × (Nat → Int32)) := f_X9_oneDay_b184 v_this_told k_56 x1 x2 x3 x4 (s1 ||| s0) x6 v_this_st
def f_X9_oneDay_b161 (v_this_told : Nat → Int32) (k_56 : Int32 → Int32 → Int32 → Int32 → Int32 → Int32 → (Nat → Int32) → Option (Int32 × (Nat → Int32))) (x1 : Int32) (x2 : Int32) (x3 : Int32) (x4 : Int32) (x5 : Int32) (x6 : Int32) (s0 : Int32) (s1 : Int32) (v_this_st : Nat → Int32) : Option (Int32 × (Nat → Int32)) := gd_ s1 15 ((f_X9_isFrozen (upd v_this_st (Int32.toNatClampNeg s1) s0) x6).bind fun y16 => if y16 = 0 then (f_X9_oneDay_b181 v_this_told k_56 x1 x2 x3 x4 x6 0 x5 (upd v_this_st (Int32.toNatClampNeg s1) s0)) else (f_X9_oneDay_b181 v_this_told k_56 x1 x2 x3 x4 x6 ((1 : Int32) <<< (x6 &&& 31)) x5 (upd v_this_st (Int32.toNatClampNeg s1) s0)))
def f_X9_oneDay_b130 (v_this_told : Nat → Int32) (k_56 : Int32 → Int32 → Int32 → Int32 → Int32 → Int32 → (Nat → Int32) → Option (Int32 × (Nat → Int32))) (x1 : Int32) (x2 : Int32) (x3 : Int32) (x4 : Int32) (x5 : Int32) (x6 : Int32) (s0 : Int32) (v_this_st : Nat → Int32) : Option (Int32 × (Nat → Int32)) := if 0 ≤ s0 then (if s0 ≤ 20 then (f_X9_oneDay_b161 v_this_told k_56 x1 x2 x3 x4 x5 x6 s0 x6 v_this_st) else (f_X9_oneDay_b161 v_this_told k_56 x1 x2 x3 x4 x5 x6 20 x6 v_this_st)) else (f_X9_oneDay_b161 v_this_told k_56 x1 x2 x3 x4 x5 x6 0 x6 v_this_st)
def f_X9_oneDay_b119 (v_this_told : Nat → Int32) (k_56 : Int32 → Int32 → Int32 → Int32 → Int32 → Int32 → (Nat → Int32) → Option (Int32 × (Nat → Int32))) (x1 : Int32) (x2 : Int32) (x3 : Int32) (x4 : Int32) (x5 : Int32) (x6 : Int32) (v_this_st : Nat → Int32) : Option (Int32 × (Nat → Int32)) := gd_ x6 15 (f_X9_oneDay_b130 v_this_told k_56 x1 x2 x3 x4 x5 x6 ((v_this_st (Int32.toNatClampNeg x6)) - (x2 / 5)) v_this_st)
def f_X9_oneDay_s56 (v_this_told : Nat → Int32) (k_56 : Int32 → Int32 → Int32 → Int32 → Int32 → Int32 → (Nat → Int32) → Option (Int32 × (Nat → Int32))) (x1 : Int32) (x2 : Int32) (x3 : Int32) (x4 : Int32) (x5 : Int32) (x6 : Int32) (v_this_st : Nat → Int32) : Option (Int32 × (Nat → Int32)) := if (v_this_told 0) ≤ x6 then (some (x5, (upd v_this_st 14 ((v_this_st 14) + 1)))) else ((f_X9_isFrozen v_this_st x6).bind fun y11 => if y11 = 0 then (if x3 = 0 then (f_X9_oneDay_b119 v_this_told k_56 x1 x2 x3 x4 x5 x6 v_this_st) else (if x6 = x1 then (if x4 < x2 then (gd_ x6 15 (f_X9_oneDay_b130 v_this_told k_56 x1 x2 x3 x4 x5 x6 (((v_this_st (Int32.toNatClampNeg x6)) - x2) + x4) v_this_st)) else (gd_ x6 15 (f_X9_oneDay_b130 v_this_told k_56 x1 x2 x3 x4 x5 x6 ((v_this_st (Int32.toNatClampNeg x6)) + 2) v_this_st))) else (f_X9_oneDay_b119 v_this_told k_56 x1 x2 x3 x4 x5 x6 v_this_st))) else (f_X9_oneDay_b184 v_this_told k_56 x1 x2 x3 x4 x5 x6 v_this_st))
def f_X9_oneDay_b56 (v_this_told : Nat → Int32) (n : Nat) : Int32 → Int32 → Int32 → Int32 → Int32 → Int32 → (Nat → Int32) → Option (Int32 × (Nat → Int32)) := it_ (f_X9_oneDay_s56 v_this_told ) (fun _ _ _ _ _ _ _ => none) n
def f_X9_oneDay_b48 (v_this_told : Nat → Int32) (x1 : Int32) (x2 : Int32) (x3 : Int32) (s0 : Int32) (v_this_st : Nat → Int32) : Option (Int32 × (Nat → Int32)) := f_X9_oneDay_b56 v_this_told 5000 x1 x2 x3 s0 0 0 v_this_st
def f_X9_oneDay_b30 (v_this_told : Nat → Int32) (x1 : Int32) (x2 : Int32) (s0 : Int32) (v_this_st : Nat → Int32) : Option (Int32 × (Nat → Int32)) := if s0 = 0 then (f_X9_oneDay_b48 v_this_told x1 x2 s0 0 v_this_st) else ((f_X9_doneUp v_this_told v_this_st x1).bind fun y7 => (f_X9_warmBy v_this_told y7).bind fun y9 => f_X9_oneDay_b48 v_this_told x1 x2 s0 y9 v_this_st)
def f_X9_oneDay_b29 (v_this_told : Nat → Int32) (x1 : Int32) (x2 : Int32) (v_this_st : Nat → Int32) : Option (Int32 × (Nat → Int32)) := f_X9_oneDay_b30 v_this_told x1 x2 0 v_this_st
def f_X9_oneDay (v_this_told : Nat → Int32) (v_this_st : Nat → Int32) (x1 : Int32) : Option (Int32 × (Nat → Int32)) := (f_X9_coldNow v_this_told v_this_st).bind fun y1 => if x1 < 0 then (f_X9_oneDay_b29 v_this_told x1 y1 v_this_st) else ((f_X9_isFrozen v_this_st x1).bind fun y3 => if y3 = 0 then ((f_X9_isCarried v_this_told v_this_st x1).bind fun y5 => if y5 = 0 then (f_X9_oneDay_b29 v_this_told x1 y1 v_this_st) else (f_X9_oneDay_b30 v_this_told x1 y1 1 v_this_st)) else (f_X9_oneDay_b29 v_this_told x1 y1 v_this_st))
def w_X9_oneDay (cyI cyZ cyW : ClassId) (a_this : Nat) (a_this_told : Nat) (a_this_st : Nat) (a_this_text : Nat) (v_this_letters : Int32) (v_this_place : Int32) (v_this_token : Int32) (v_this_value : Int32) (v_this_begins : Int32) (a_this_read : Nat) (v_this_clauses : Int32) (a_this_ahead : Nat) (v_this_undoMany : Int32) (a_this_isKept : Nat) (a_this_kept : Nat) (v_this_fewestMany : Int32) (v_this_fewestSets : Int32) (v_this_fewestSet : Int32) (v_this_fewestMost : Int32) (a_this_aside : Nat) (a_this_seens : Nat) (v_this_seenMany : Int32) (v_this_told : Nat → Int32) (v_this_st : Nat → Int32) : va_W := [(a_this, .inr (9, [.ref a_this_told, .ref a_this_st, .ref a_this_text, .int v_this_letters, .int v_this_place, .int v_this_token, .int v_this_value, .int v_this_begins, .ref a_this_read, .int v_this_clauses, .ref a_this_ahead, .int v_this_undoMany, .ref a_this_isKept, .ref a_this_kept, .int v_this_fewestMany, .int v_this_fewestSets, .int v_this_fewestSet, .int v_this_fewestMost, .ref a_this_aside, .ref a_this_seens, .int v_this_seenMany])), (a_this_told, .inl (cyI, 37, .inl v_this_told)), (a_this_st, .inl (cyI, 15, .inl v_this_st))]
set_option maxHeartbeats 4000000 in
set_option maxRecDepth 100000 in
theorem c_X9_oneDay (l : Launch) (D : va_G) (cyI cyZ cyW : ClassId) (a_this : Nat) (a_this_told : Nat) (a_this_st : Nat) (a_this_text : Nat) (v_this_letters : Int32) (v_this_place : Int32) (v_this_token : Int32) (v_this_value : Int32) (v_this_begins : Int32) (a_this_read : Nat) (v_this_clauses : Int32) (a_this_ahead : Nat) (v_this_undoMany : Int32) (a_this_isKept : Nat) (a_this_kept : Nat) (v_this_fewestMany : Int32) (v_this_fewestSets : Int32) (v_this_fewestSet : Int32) (v_this_fewestMost : Int32) (a_this_aside : Nat) (a_this_seens : Nat) (v_this_seenMany : Int32) (v_this_told : Nat → Int32) (v_this_st : Nat → Int32) (x1 : Int32) (res : Int32 × (Nat → Int32)) (hf : f_X9_oneDay v_this_told v_this_st x1 = some res) : ∀ sz, Met l yX9_oneDay wsX9_oneDay { frames := 5, cells := 0, slots := 0, locals := 105 } (PCx D (tyG cyI cyZ cyW) [.ref a_this, .int x1] (w_X9_oneDay cyI cyZ cyW a_this a_this_told a_this_st a_this_text v_this_letters v_this_place v_this_token v_this_value v_this_begins a_this_read v_this_clauses a_this_ahead v_this_undoMany a_this_isKept a_this_kept v_this_fewestMany v_this_fewestSets v_this_fewestSet v_this_fewestMost a_this_aside a_this_seens v_this_seenMany v_this_told v_this_st) sz) (QI D (tyG cyI cyZ cyW) (w_X9_oneDay cyI cyZ cyW a_this a_this_told a_this_st a_this_text v_this_letters v_this_place v_this_token v_this_value v_this_begins a_this_read v_this_clauses a_this_ahead v_this_undoMany a_this_isKept a_this_kept v_this_fewestMany v_this_fewestSets v_this_fewestSet v_this_fewestMost a_this_aside a_this_seens v_this_seenMany v_this_told v_this_st) sz res.1 (w_X9_oneDay cyI cyZ cyW a_this a_this_told a_this_st a_this_text v_this_letters v_this_place v_this_token v_this_value v_this_begins a_this_read v_this_clauses a_this_ahead v_this_undoMany a_this_isKept a_this_kept v_this_fewestMany v_this_fewestSets v_this_fewestSet v_this_fewestMost a_this_aside a_this_seens v_this_seenMany v_this_told res.2)) 0 0 (va_A (w_X9_oneDay cyI cyZ cyW a_this a_this_told a_this_st a_this_text v_this_letters v_this_place v_this_token v_this_value v_this_begins a_this_read v_this_clauses a_this_ahead v_this_undoMany a_this_isKept a_this_kept v_this_fewestMany v_this_fewestSets v_this_fewestSet v_this_fewestMost a_this_aside a_this_seens v_this_seenMany v_this_told v_this_st) sz) := by
  intro sz
  refine met_of (cc := cX9_oneDay) (maxL := 8) (ret := (some .int)) (lv0 := [(0, .ref a_this), (1, .int x1)]) (by decide) rfl ⟨(Nat.le_of_ble_eq_true rfl), rfl⟩ ?_
  intro p e s m below meth c C hr hlk hnm hsz
  subst hsz
  have C : CX p s m _ c 8 cX9_oneDay RX9 wsX9_oneDay D (tyG cyI cyZ cyW) _ := C
  obtain ⟨Z, hZ⟩ : ∃ Z : va_W → Nat → LV → List Value → Prop, Z = ST p l e { frames := 5, cells := 0, slots := 0, locals := 105 } s m [.ref a_this, .int x1].toArray below meth c 8 D (va_A (w_X9_oneDay cyI cyZ cyW a_this a_this_told a_this_st a_this_text v_this_letters v_this_place v_this_token v_this_value v_this_begins a_this_read v_this_clauses a_this_ahead v_this_undoMany a_this_isKept a_this_kept v_this_fewestMany v_this_fewestSets v_this_fewestSet v_this_fewestMost a_this_aside a_this_seens v_this_seenMany v_this_told v_this_st) s.heap.size) (MQ below (QI D (tyG cyI cyZ cyW) (w_X9_oneDay cyI cyZ cyW a_this a_this_told a_this_st a_this_text v_this_letters v_this_place v_this_token v_this_value v_this_begins a_this_read v_this_clauses a_this_ahead v_this_undoMany a_this_isKept a_this_kept v_this_fewestMany v_this_fewestSets v_this_fewestSet v_this_fewestMost a_this_aside a_this_seens v_this_seenMany v_this_told v_this_st) s.heap.size res.1 (w_X9_oneDay cyI cyZ cyW a_this a_this_told a_this_st a_this_text v_this_letters v_this_place v_this_token v_this_value v_this_begins a_this_read v_this_clauses a_this_ahead v_this_undoMany a_this_isKept a_this_kept v_this_fewestMany v_this_fewestSets v_this_fewestSet v_this_fewestMost a_this_aside a_this_seens v_this_seenMany v_this_told res.2)) [.ref a_this, .int x1].toArray s 0 0 (va_A (w_X9_oneDay cyI cyZ cyW a_this a_this_told a_this_st a_this_text v_this_letters v_this_place v_this_token v_this_value v_this_begins a_this_read v_this_clauses a_this_ahead v_this_undoMany a_this_isKept a_this_kept v_this_fewestMany v_this_fewestSets v_this_fewestSet v_this_fewestMost a_this_aside a_this_seens v_this_seenMany v_this_told v_this_st) s.heap.size)) 0 0 := ⟨_, rfl⟩
  have hb_184 : ∀ (k_56 : Int32 → Int32 → Int32 → Int32 → Int32 → Int32 → (Nat → Int32) → Option (Int32 × (Nat → Int32))), (∀ (x1 : Int32) (x2 : Int32) (x3 : Int32) (x4 : Int32) (x5 : Int32) (x6 : Int32) (v_this_st : Nat → Int32), k_56 x1 x2 x3 x4 x5 x6 v_this_st = some res → Z (w_X9_oneDay cyI cyZ cyW a_this a_this_told a_this_st a_this_text v_this_letters v_this_place v_this_token v_this_value v_this_begins a_this_read v_this_clauses a_this_ahead v_this_undoMany a_this_isKept a_this_kept v_this_fewestMany v_this_fewestSets v_this_fewestSet v_this_fewestMost a_this_aside a_this_seens v_this_seenMany v_this_told v_this_st) 56 [(0, .ref a_this), (1, .int x1), (2, .int x2), (3, .int x3), (4, .int x4), (5, .int x5), (6, .int x6)] []) → ∀ (x1 : Int32) (x2 : Int32) (x3 : Int32) (x4 : Int32) (x5 : Int32) (x6 : Int32) (v_this_st : Nat → Int32), f_X9_oneDay_b184 v_this_told k_56 x1 x2 x3 x4 x5 x6 v_this_st = some res → Z (w_X9_oneDay cyI cyZ cyW a_this a_this_told a_this_st a_this_text v_this_letters v_this_place v_this_token v_this_value v_this_begins a_this_read v_this_clauses a_this_ahead v_this_undoMany a_this_isKept a_this_kept v_this_fewestMany v_this_fewestSets v_this_fewestSet v_this_fewestMost a_this_aside a_this_seens v_this_seenMany v_this_told v_this_st) 184 [(0, .ref a_this), (1, .int x1), (2, .int x2), (3, .int x3), (4, .int x4), (5, .int x5), (6, .int x6)] [] := by
    subst hZ
    intro k_56 hk_56 x1 x2 x3 x4 x5 x6 v_this_st hf
    refine r_iinc (v := 1) (k := 6) (lv' := [(6, .int (x6 + 1)), (0, .ref a_this), (1, .int x1), (2, .int x2), (3, .int x3), (4, .int x4), (5, .int x5)]) C dX9_oneDay_184 rfl (by decide) (by decide) rfl ?_
    refine r_goto C 56 dX9_oneDay_187 (by decide) ?_
    exact ST_lv [1, 2, 3, 4, 5, 6, 0] rfl (hk_56 x1 x2 x3 x4 x5 (x6 + 1) v_this_st hf)
  have hb_181 : ∀ (k_56 : Int32 → Int32 → Int32 → Int32 → Int32 → Int32 → (Nat → Int32) → Option (Int32 × (Nat → Int32))), (∀ (x1 : Int32) (x2 : Int32) (x3 : Int32) (x4 : Int32) (x5 : Int32) (x6 : Int32) (v_this_st : Nat → Int32), k_56 x1 x2 x3 x4 x5 x6 v_this_st = some res → Z (w_X9_oneDay cyI cyZ cyW a_this a_this_told a_this_st a_this_text v_this_letters v_this_place v_this_token v_this_value v_this_begins a_this_read v_this_clauses a_this_ahead v_this_undoMany a_this_isKept a_this_kept v_this_fewestMany v_this_fewestSets v_this_fewestSet v_this_fewestMost a_this_aside a_this_seens v_this_seenMany v_this_told v_this_st) 56 [(0, .ref a_this), (1, .int x1), (2, .int x2), (3, .int x3), (4, .int x4), (5, .int x5), (6, .int x6)] []) → ∀ (x1 : Int32) (x2 : Int32) (x3 : Int32) (x4 : Int32) (x6 : Int32) (s0 : Int32) (s1 : Int32) (v_this_st : Nat → Int32), f_X9_oneDay_b181 v_this_told k_56 x1 x2 x3 x4 x6 s0 s1 v_this_st = some res → Z (w_X9_oneDay cyI cyZ cyW a_this a_this_told a_this_st a_this_text v_this_letters v_this_place v_this_token v_this_value v_this_begins a_this_read v_this_clauses a_this_ahead v_this_undoMany a_this_isKept a_this_kept v_this_fewestMany v_this_fewestSets v_this_fewestSet v_this_fewestMost a_this_aside a_this_seens v_this_seenMany v_this_told v_this_st) 181 [(0, .ref a_this), (1, .int x1), (2, .int x2), (3, .int x3), (4, .int x4), (6, .int x6)] [.int s0, .int s1] := by
    subst hZ
    intro k_56 hk_56 x1 x2 x3 x4 x6 s0 s1 v_this_st hf
    refine r_ior C dX9_oneDay_181 ?_
    refine r_istore (lv' := [(5, .int (s1 ||| s0)), (0, .ref a_this), (1, .int x1), (2, .int x2), (3, .int x3), (4, .int x4), (6, .int x6)]) C dX9_oneDay_182 (by decide) rfl ?_
    exact ST_lv [1, 2, 3, 4, 5, 0, 6] rfl (hb_184 k_56 hk_56 x1 x2 x3 x4 (s1 ||| s0) x6 v_this_st hf)
  have hb_161 : ∀ (k_56 : Int32 → Int32 → Int32 → Int32 → Int32 → Int32 → (Nat → Int32) → Option (Int32 × (Nat → Int32))), (∀ (x1 : Int32) (x2 : Int32) (x3 : Int32) (x4 : Int32) (x5 : Int32) (x6 : Int32) (v_this_st : Nat → Int32), k_56 x1 x2 x3 x4 x5 x6 v_this_st = some res → Z (w_X9_oneDay cyI cyZ cyW a_this a_this_told a_this_st a_this_text v_this_letters v_this_place v_this_token v_this_value v_this_begins a_this_read v_this_clauses a_this_ahead v_this_undoMany a_this_isKept a_this_kept v_this_fewestMany v_this_fewestSets v_this_fewestSet v_this_fewestMost a_this_aside a_this_seens v_this_seenMany v_this_told v_this_st) 56 [(0, .ref a_this), (1, .int x1), (2, .int x2), (3, .int x3), (4, .int x4), (5, .int x5), (6, .int x6)] []) → ∀ (x1 : Int32) (x2 : Int32) (x3 : Int32) (x4 : Int32) (x5 : Int32) (x6 : Int32) (s0 : Int32) (s1 : Int32) (v_this_st : Nat → Int32), f_X9_oneDay_b161 v_this_told k_56 x1 x2 x3 x4 x5 x6 s0 s1 v_this_st = some res → Z (w_X9_oneDay cyI cyZ cyW a_this a_this_told a_this_st a_this_text v_this_letters v_this_place v_this_token v_this_value v_this_begins a_this_read v_this_clauses a_this_ahead v_this_undoMany a_this_isKept a_this_kept v_this_fewestMany v_this_fewestSets v_this_fewestSet v_this_fewestMost a_this_aside a_this_seens v_this_seenMany v_this_told v_this_st) 161 [(0, .ref a_this), (1, .int x1), (2, .int x2), (3, .int x3), (4, .int x4), (5, .int x5), (6, .int x6)] [.int s0, .int s1, .ref a_this_st] := by
    subst hZ
    intro k_56 hk_56 x1 x2 x3 x4 x5 x6 s0 s1 v_this_st hf
    obtain ⟨hi15, hf⟩ := gd_some hf
    refine r_iast (ws' := (w_X9_oneDay cyI cyZ cyW a_this a_this_told a_this_st a_this_text v_this_letters v_this_place v_this_token v_this_value v_this_begins a_this_read v_this_clauses a_this_ahead v_this_undoMany a_this_isKept a_this_kept v_this_fewestMany v_this_fewestSets v_this_fewestSet v_this_fewestMost a_this_aside a_this_seens v_this_seenMany v_this_told (upd v_this_st (Int32.toNatClampNeg s1) s0))) C 2 0 rfl rfl hi15 rfl dX9_oneDay_161 ?_
    refine r_iload C dX9_oneDay_162 5 rfl ?_
    refine r_aload_n C dX9_oneDay_164 rfl 0 rfl ?_
    refine r_iload C dX9_oneDay_165 6 rfl ?_
    obtain ⟨y16, hy17, hf⟩ := bd_some hf
    refine r_roV_i (As := [.int x6]) (rest := [.int x5]) C (c_X9_isFrozen l D cyI cyZ cyW a_this a_this_told a_this_st a_this_text v_this_letters v_this_place v_this_token v_this_value v_this_begins a_this_read v_this_clauses a_this_ahead v_this_undoMany a_this_isKept a_this_kept v_this_fewestMany v_this_fewestSets v_this_fewestSet v_this_fewestMost a_this_aside a_this_seens v_this_seenMany (upd v_this_st (Int32.toNatClampNeg s1) s0) x6 y16 hy17) gX9_oneDay_X9_isFrozen rfl hyV_X9_isFrozen ⟨rfl, rfl, (Nat.le_of_ble_eq_true rfl), (Nat.le_of_ble_eq_true rfl)⟩ rfl 0 rfl rfl [0, 2] rfl rfl rfl (Nat.le_of_ble_eq_true rfl) ⟨Nat.zero_le _, Nat.zero_le _⟩ dX9_oneDay_167 ?_
    refine r_if_eq C 180 dX9_oneDay_170 (by decide) hf (fun hf => ?_) (fun hf => ?_)
    · refine r_iconst C 0 dX9_oneDay_180 (by decide) ?_
      exact ST_lv [0, 1, 2, 3, 4, 6] rfl (hb_181 k_56 hk_56 x1 x2 x3 x4 x6 0 x5 (upd v_this_st (Int32.toNatClampNeg s1) s0) hf)
    · refine r_iconst C 1 dX9_oneDay_173 (by decide) ?_
      refine r_iload C dX9_oneDay_174 6 rfl ?_
      refine r_ishl C dX9_oneDay_176 ?_
      refine r_goto C 181 dX9_oneDay_177 (by decide) ?_
      exact ST_lv [0, 1, 2, 3, 4, 6] rfl (hb_181 k_56 hk_56 x1 x2 x3 x4 x6 ((1 : Int32) <<< (x6 &&& 31)) x5 (upd v_this_st (Int32.toNatClampNeg s1) s0) hf)
  have hb_130 : ∀ (k_56 : Int32 → Int32 → Int32 → Int32 → Int32 → Int32 → (Nat → Int32) → Option (Int32 × (Nat → Int32))), (∀ (x1 : Int32) (x2 : Int32) (x3 : Int32) (x4 : Int32) (x5 : Int32) (x6 : Int32) (v_this_st : Nat → Int32), k_56 x1 x2 x3 x4 x5 x6 v_this_st = some res → Z (w_X9_oneDay cyI cyZ cyW a_this a_this_told a_this_st a_this_text v_this_letters v_this_place v_this_token v_this_value v_this_begins a_this_read v_this_clauses a_this_ahead v_this_undoMany a_this_isKept a_this_kept v_this_fewestMany v_this_fewestSets v_this_fewestSet v_this_fewestMost a_this_aside a_this_seens v_this_seenMany v_this_told v_this_st) 56 [(0, .ref a_this), (1, .int x1), (2, .int x2), (3, .int x3), (4, .int x4), (5, .int x5), (6, .int x6)] []) → ∀ (x1 : Int32) (x2 : Int32) (x3 : Int32) (x4 : Int32) (x5 : Int32) (x6 : Int32) (s0 : Int32) (v_this_st : Nat → Int32), f_X9_oneDay_b130 v_this_told k_56 x1 x2 x3 x4 x5 x6 s0 v_this_st = some res → Z (w_X9_oneDay cyI cyZ cyW a_this a_this_told a_this_st a_this_text v_this_letters v_this_place v_this_token v_this_value v_this_begins a_this_read v_this_clauses a_this_ahead v_this_undoMany a_this_isKept a_this_kept v_this_fewestMany v_this_fewestSets v_this_fewestSet v_this_fewestMost a_this_aside a_this_seens v_this_seenMany v_this_told v_this_st) 130 [(0, .ref a_this), (1, .int x1), (2, .int x2), (3, .int x3), (4, .int x4), (5, .int x5), (6, .int x6)] [.int s0] := by
    subst hZ
    intro k_56 hk_56 x1 x2 x3 x4 x5 x6 s0 v_this_st hf
    refine r_istore (lv' := [(7, .int s0), (0, .ref a_this), (1, .int x1), (2, .int x2), (3, .int x3), (4, .int x4), (5, .int x5), (6, .int x6)]) C dX9_oneDay_130 (by decide) rfl ?_
    refine r_aload_n C dX9_oneDay_132 rfl 1 rfl ?_
    refine r_get C in_X9_oneDay_X9 0 rfl rfl 1 (by decide) lk_X9_oneDay_2 rfl rfl dX9_oneDay_133 ?_
    refine r_iload C dX9_oneDay_136 7 rfl ?_
    refine r_iload C dX9_oneDay_138 0 rfl ?_
    refine r_if_ge C 147 dX9_oneDay_140 (by decide) hf (fun hf => ?_) (fun hf => ?_)
    · refine r_iload C dX9_oneDay_147 0 rfl ?_
      refine r_bipush C 20 dX9_oneDay_149 (by decide) ?_
      refine r_icmp_le C 159 dX9_oneDay_151 (by decide) hf (fun hf => ?_) (fun hf => ?_)
      · refine r_iload C dX9_oneDay_159 0 rfl ?_
        exact ST_lv [1, 2, 3, 4, 5, 6, 7] rfl (hb_161 k_56 hk_56 x1 x2 x3 x4 x5 x6 s0 x6 v_this_st hf)
      · refine r_bipush C 20 dX9_oneDay_154 (by decide) ?_
        refine r_goto C 161 dX9_oneDay_156 (by decide) ?_
        exact ST_lv [1, 2, 3, 4, 5, 6, 7] rfl (hb_161 k_56 hk_56 x1 x2 x3 x4 x5 x6 20 x6 v_this_st hf)
    · refine r_iconst C 0 dX9_oneDay_143 (by decide) ?_
      refine r_goto C 161 dX9_oneDay_144 (by decide) ?_
      exact ST_lv [1, 2, 3, 4, 5, 6, 7] rfl (hb_161 k_56 hk_56 x1 x2 x3 x4 x5 x6 0 x6 v_this_st hf)
  have hb_119 : ∀ (k_56 : Int32 → Int32 → Int32 → Int32 → Int32 → Int32 → (Nat → Int32) → Option (Int32 × (Nat → Int32))), (∀ (x1 : Int32) (x2 : Int32) (x3 : Int32) (x4 : Int32) (x5 : Int32) (x6 : Int32) (v_this_st : Nat → Int32), k_56 x1 x2 x3 x4 x5 x6 v_this_st = some res → Z (w_X9_oneDay cyI cyZ cyW a_this a_this_told a_this_st a_this_text v_this_letters v_this_place v_this_token v_this_value v_this_begins a_this_read v_this_clauses a_this_ahead v_this_undoMany a_this_isKept a_this_kept v_this_fewestMany v_this_fewestSets v_this_fewestSet v_this_fewestMost a_this_aside a_this_seens v_this_seenMany v_this_told v_this_st) 56 [(0, .ref a_this), (1, .int x1), (2, .int x2), (3, .int x3), (4, .int x4), (5, .int x5), (6, .int x6)] []) → ∀ (x1 : Int32) (x2 : Int32) (x3 : Int32) (x4 : Int32) (x5 : Int32) (x6 : Int32) (v_this_st : Nat → Int32), f_X9_oneDay_b119 v_this_told k_56 x1 x2 x3 x4 x5 x6 v_this_st = some res → Z (w_X9_oneDay cyI cyZ cyW a_this a_this_told a_this_st a_this_text v_this_letters v_this_place v_this_token v_this_value v_this_begins a_this_read v_this_clauses a_this_ahead v_this_undoMany a_this_isKept a_this_kept v_this_fewestMany v_this_fewestSets v_this_fewestSet v_this_fewestMost a_this_aside a_this_seens v_this_seenMany v_this_told v_this_st) 119 [(0, .ref a_this), (1, .int x1), (2, .int x2), (3, .int x3), (4, .int x4), (5, .int x5), (6, .int x6)] [] := by
    subst hZ
    intro k_56 hk_56 x1 x2 x3 x4 x5 x6 v_this_st hf
    refine r_aload_n C dX9_oneDay_119 rfl 0 rfl ?_
    refine r_get C in_X9_oneDay_X9 0 rfl rfl 1 (by decide) lk_X9_oneDay_2 rfl rfl dX9_oneDay_120 ?_
    refine r_iload C dX9_oneDay_123 6 rfl ?_
    obtain ⟨hi18, hf⟩ := gd_some hf
    refine r_iald C 2 0 rfl rfl hi18 dX9_oneDay_125 ?_
    refine r_iload_n C dX9_oneDay_126 rfl 2 rfl ?_
    refine r_iconst C 5 dX9_oneDay_127 (by decide) ?_
    refine r_idiv C dX9_oneDay_128 (by decide) ?_
    refine r_isub C dX9_oneDay_129 ?_
    exact ST_lv [0, 1, 2, 3, 4, 5, 6] rfl (hb_130 k_56 hk_56 x1 x2 x3 x4 x5 x6 ((v_this_st (Int32.toNatClampNeg x6)) - (x2 / 5)) v_this_st hf)
  have hs_56 : ∀ (k_56 : Int32 → Int32 → Int32 → Int32 → Int32 → Int32 → (Nat → Int32) → Option (Int32 × (Nat → Int32))), (∀ (x1 : Int32) (x2 : Int32) (x3 : Int32) (x4 : Int32) (x5 : Int32) (x6 : Int32) (v_this_st : Nat → Int32), k_56 x1 x2 x3 x4 x5 x6 v_this_st = some res → Z (w_X9_oneDay cyI cyZ cyW a_this a_this_told a_this_st a_this_text v_this_letters v_this_place v_this_token v_this_value v_this_begins a_this_read v_this_clauses a_this_ahead v_this_undoMany a_this_isKept a_this_kept v_this_fewestMany v_this_fewestSets v_this_fewestSet v_this_fewestMost a_this_aside a_this_seens v_this_seenMany v_this_told v_this_st) 56 [(0, .ref a_this), (1, .int x1), (2, .int x2), (3, .int x3), (4, .int x4), (5, .int x5), (6, .int x6)] []) → ∀ (x1 : Int32) (x2 : Int32) (x3 : Int32) (x4 : Int32) (x5 : Int32) (x6 : Int32) (v_this_st : Nat → Int32), f_X9_oneDay_s56 v_this_told k_56 x1 x2 x3 x4 x5 x6 v_this_st = some res → Z (w_X9_oneDay cyI cyZ cyW a_this a_this_told a_this_st a_this_text v_this_letters v_this_place v_this_token v_this_value v_this_begins a_this_read v_this_clauses a_this_ahead v_this_undoMany a_this_isKept a_this_kept v_this_fewestMany v_this_fewestSets v_this_fewestSet v_this_fewestMost a_this_aside a_this_seens v_this_seenMany v_this_told v_this_st) 56 [(0, .ref a_this), (1, .int x1), (2, .int x2), (3, .int x3), (4, .int x4), (5, .int x5), (6, .int x6)] [] := by
    subst hZ
    intro k_56 hk_56 x1 x2 x3 x4 x5 x6 v_this_st hf
    refine r_iload C dX9_oneDay_56 6 rfl ?_
    refine r_aload_n C dX9_oneDay_58 rfl 0 rfl ?_
    refine r_get C in_X9_oneDay_X9 0 rfl rfl 0 (by decide) lk_X9_oneDay_1 rfl rfl dX9_oneDay_59 ?_
    refine r_iconst C 0 dX9_oneDay_62 (by decide) ?_
    refine r_iald_k C 0 1 0 rfl rfl (kk_ 0 37 (by decide) (by decide)) dX9_oneDay_63 ?_
    refine r_icmp_ge C 190 dX9_oneDay_64 (by decide) hf (fun hf => ?_) (fun hf => ?_)
    · refine r_aload_n C dX9_oneDay_190 rfl 0 rfl ?_
      refine r_get C in_X9_oneDay_X9 0 rfl rfl 1 (by decide) lk_X9_oneDay_2 rfl rfl dX9_oneDay_191 ?_
      refine r_bipush C 14 dX9_oneDay_194 (by decide) ?_
      refine r_dup2_11 C dX9_oneDay_196 rfl rfl ?_
      refine r_iald_k C 14 2 0 rfl rfl (kk_ 14 15 (by decide) (by decide)) dX9_oneDay_197 ?_
      refine r_iconst C 1 dX9_oneDay_198 (by decide) ?_
      refine r_iadd C dX9_oneDay_199 ?_
      refine r_iast_k (ws' := (w_X9_oneDay cyI cyZ cyW a_this a_this_told a_this_st a_this_text v_this_letters v_this_place v_this_token v_this_value v_this_begins a_this_read v_this_clauses a_this_ahead v_this_undoMany a_this_isKept a_this_kept v_this_fewestMany v_this_fewestSets v_this_fewestSet v_this_fewestMost a_this_aside a_this_seens v_this_seenMany v_this_told (upd v_this_st 14 ((v_this_st 14) + 1)))) C 14 2 0 rfl rfl (kk_ 14 15 (by decide) (by decide)) rfl dX9_oneDay_200 ?_
      refine r_iload C dX9_oneDay_201 5 rfl ?_
      rw [← Option.some.inj hf]
      exact r_iret C hr hlk dX9_oneDay_203
    · refine r_aload_n C dX9_oneDay_67 rfl 0 rfl ?_
      refine r_iload C dX9_oneDay_68 6 rfl ?_
      obtain ⟨y11, hy12, hf⟩ := bd_some hf
      refine r_roV_i (As := [.int x6]) (rest := []) C (c_X9_isFrozen l D cyI cyZ cyW a_this a_this_told a_this_st a_this_text v_this_letters v_this_place v_this_token v_this_value v_this_begins a_this_read v_this_clauses a_this_ahead v_this_undoMany a_this_isKept a_this_kept v_this_fewestMany v_this_fewestSets v_this_fewestSet v_this_fewestMost a_this_aside a_this_seens v_this_seenMany v_this_st x6 y11 hy12) gX9_oneDay_X9_isFrozen rfl hyV_X9_isFrozen ⟨rfl, rfl, (Nat.le_of_ble_eq_true rfl), (Nat.le_of_ble_eq_true rfl)⟩ rfl 0 rfl rfl [0, 2] rfl rfl rfl (Nat.le_of_ble_eq_true rfl) ⟨Nat.zero_le _, Nat.zero_le _⟩ dX9_oneDay_70 ?_
      refine r_if_ne C 184 dX9_oneDay_73 (by decide) hf (fun hf => ?_) (fun hf => ?_)
      · exact ST_lv [0, 1, 2, 3, 4, 5, 6] rfl (hb_184 k_56 hk_56 x1 x2 x3 x4 x5 x6 v_this_st hf)
      · refine r_iload_n C dX9_oneDay_76 rfl 3 rfl ?_
        refine r_if_eq C 119 dX9_oneDay_77 (by decide) hf (fun hf => ?_) (fun hf => ?_)
        · exact ST_lv [0, 1, 2, 3, 4, 5, 6] rfl (hb_119 k_56 hk_56 x1 x2 x3 x4 x5 x6 v_this_st hf)
        · refine r_iload C dX9_oneDay_80 6 rfl ?_
          refine r_iload_n C dX9_oneDay_82 rfl 1 rfl ?_
          refine r_icmp_ne C 119 dX9_oneDay_83 (by decide) hf (fun hf => ?_) (fun hf => ?_)
          · exact ST_lv [0, 1, 2, 3, 4, 5, 6] rfl (hb_119 k_56 hk_56 x1 x2 x3 x4 x5 x6 v_this_st hf)
          · refine r_iload C dX9_oneDay_86 4 rfl ?_
            refine r_iload_n C dX9_oneDay_88 rfl 2 rfl ?_
            refine r_icmp_lt C 104 dX9_oneDay_89 (by decide) hf (fun hf => ?_) (fun hf => ?_)
            · refine r_aload_n C dX9_oneDay_104 rfl 0 rfl ?_
              refine r_get C in_X9_oneDay_X9 0 rfl rfl 1 (by decide) lk_X9_oneDay_2 rfl rfl dX9_oneDay_105 ?_
              refine r_iload C dX9_oneDay_108 6 rfl ?_
              obtain ⟨hi13, hf⟩ := gd_some hf
              refine r_iald C 2 0 rfl rfl hi13 dX9_oneDay_110 ?_
              refine r_iload_n C dX9_oneDay_111 rfl 2 rfl ?_
              refine r_isub C dX9_oneDay_112 ?_
              refine r_iload C dX9_oneDay_113 4 rfl ?_
              refine r_iadd C dX9_oneDay_115 ?_
              refine r_goto C 130 dX9_oneDay_116 (by decide) ?_
              exact ST_lv [0, 1, 2, 3, 4, 5, 6] rfl (hb_130 k_56 hk_56 x1 x2 x3 x4 x5 x6 (((v_this_st (Int32.toNatClampNeg x6)) - x2) + x4) v_this_st hf)
            · refine r_aload_n C dX9_oneDay_92 rfl 0 rfl ?_
              refine r_get C in_X9_oneDay_X9 0 rfl rfl 1 (by decide) lk_X9_oneDay_2 rfl rfl dX9_oneDay_93 ?_
              refine r_iload C dX9_oneDay_96 6 rfl ?_
              obtain ⟨hi14, hf⟩ := gd_some hf
              refine r_iald C 2 0 rfl rfl hi14 dX9_oneDay_98 ?_
              refine r_iconst C 2 dX9_oneDay_99 (by decide) ?_
              refine r_iadd C dX9_oneDay_100 ?_
              refine r_goto C 130 dX9_oneDay_101 (by decide) ?_
              exact ST_lv [0, 1, 2, 3, 4, 5, 6] rfl (hb_130 k_56 hk_56 x1 x2 x3 x4 x5 x6 ((v_this_st (Int32.toNatClampNeg x6)) + 2) v_this_st hf)
  have hb_56 : ∀ (n : Nat) (x1 : Int32) (x2 : Int32) (x3 : Int32) (x4 : Int32) (x5 : Int32) (x6 : Int32) (v_this_st : Nat → Int32), f_X9_oneDay_b56 v_this_told n x1 x2 x3 x4 x5 x6 v_this_st = some res → Z (w_X9_oneDay cyI cyZ cyW a_this a_this_told a_this_st a_this_text v_this_letters v_this_place v_this_token v_this_value v_this_begins a_this_read v_this_clauses a_this_ahead v_this_undoMany a_this_isKept a_this_kept v_this_fewestMany v_this_fewestSets v_this_fewestSet v_this_fewestMost a_this_aside a_this_seens v_this_seenMany v_this_told v_this_st) 56 [(0, .ref a_this), (1, .int x1), (2, .int x2), (3, .int x3), (4, .int x4), (5, .int x5), (6, .int x6)] [] := by
    intro  n
    induction n with
    | zero => intro x1 x2 x3 x4 x5 x6 v_this_st hf; exact nn_ hf
    | succ n ih => exact fun x1 x2 x3 x4 x5 x6 v_this_st hf => hs_56 _ ih x1 x2 x3 x4 x5 x6 v_this_st hf
  have hb_48 : ∀ (x1 : Int32) (x2 : Int32) (x3 : Int32) (s0 : Int32) (v_this_st : Nat → Int32), f_X9_oneDay_b48 v_this_told x1 x2 x3 s0 v_this_st = some res → Z (w_X9_oneDay cyI cyZ cyW a_this a_this_told a_this_st a_this_text v_this_letters v_this_place v_this_token v_this_value v_this_begins a_this_read v_this_clauses a_this_ahead v_this_undoMany a_this_isKept a_this_kept v_this_fewestMany v_this_fewestSets v_this_fewestSet v_this_fewestMost a_this_aside a_this_seens v_this_seenMany v_this_told v_this_st) 48 [(0, .ref a_this), (1, .int x1), (2, .int x2), (3, .int x3)] [.int s0] := by
    subst hZ
    intro x1 x2 x3 s0 v_this_st hf
    refine r_istore (lv' := [(4, .int s0), (0, .ref a_this), (1, .int x1), (2, .int x2), (3, .int x3)]) C dX9_oneDay_48 (by decide) rfl ?_
    refine r_iconst C 0 dX9_oneDay_50 (by decide) ?_
    refine r_istore (lv' := [(5, .int 0), (4, .int s0), (0, .ref a_this), (1, .int x1), (2, .int x2), (3, .int x3)]) C dX9_oneDay_51 (by decide) rfl ?_
    refine r_iconst C 0 dX9_oneDay_53 (by decide) ?_
    refine r_istore (lv' := [(6, .int 0), (5, .int 0), (4, .int s0), (0, .ref a_this), (1, .int x1), (2, .int x2), (3, .int x3)]) C dX9_oneDay_54 (by decide) rfl ?_
    exact ST_lv [3, 4, 5, 6, 2, 1, 0] rfl (hb_56 5000 x1 x2 x3 s0 0 0 v_this_st hf)
  have hb_30 : ∀ (x1 : Int32) (x2 : Int32) (s0 : Int32) (v_this_st : Nat → Int32), f_X9_oneDay_b30 v_this_told x1 x2 s0 v_this_st = some res → Z (w_X9_oneDay cyI cyZ cyW a_this a_this_told a_this_st a_this_text v_this_letters v_this_place v_this_token v_this_value v_this_begins a_this_read v_this_clauses a_this_ahead v_this_undoMany a_this_isKept a_this_kept v_this_fewestMany v_this_fewestSets v_this_fewestSet v_this_fewestMost a_this_aside a_this_seens v_this_seenMany v_this_told v_this_st) 30 [(0, .ref a_this), (1, .int x1), (2, .int x2)] [.int s0] := by
    subst hZ
    intro x1 x2 s0 v_this_st hf
    refine r_istore_n (lv' := [(3, .int s0), (0, .ref a_this), (1, .int x1), (2, .int x2)]) C dX9_oneDay_30 rfl (by decide) rfl ?_
    refine r_iload_n C dX9_oneDay_31 rfl 0 rfl ?_
    refine r_if_eq C 47 dX9_oneDay_32 (by decide) hf (fun hf => ?_) (fun hf => ?_)
    · refine r_iconst C 0 dX9_oneDay_47 (by decide) ?_
      exact ST_lv [1, 2, 3, 0] rfl (hb_48 x1 x2 s0 0 v_this_st hf)
    · refine r_aload_n C dX9_oneDay_35 rfl 1 rfl ?_
      refine r_aload_n C dX9_oneDay_36 rfl 1 rfl ?_
      refine r_iload_n C dX9_oneDay_37 rfl 2 rfl ?_
      obtain ⟨y7, hy8, hf⟩ := bd_some hf
      refine r_roV_i (As := [.int x1]) (rest := [.ref a_this]) C (c_X9_doneUp l D cyI cyZ cyW a_this a_this_told a_this_st a_this_text v_this_letters v_this_place v_this_token v_this_value v_this_begins a_this_read v_this_clauses a_this_ahead v_this_undoMany a_this_isKept a_this_kept v_this_fewestMany v_this_fewestSets v_this_fewestSet v_this_fewestMost a_this_aside a_this_seens v_this_seenMany v_this_told v_this_st x1 y7 hy8) gX9_oneDay_X9_doneUp rfl hyV_X9_doneUp ⟨rfl, rfl, (Nat.le_of_ble_eq_true rfl), (Nat.le_of_ble_eq_true rfl)⟩ rfl 0 rfl rfl [0, 1, 2] rfl rfl rfl (Nat.le_of_ble_eq_true rfl) ⟨Nat.zero_le _, Nat.zero_le _⟩ dX9_oneDay_38 ?_
      obtain ⟨y9, hy10, hf⟩ := bd_some hf
      refine r_roV_i (As := [.int y7]) (rest := []) C (c_X9_warmBy l D cyI cyZ cyW a_this a_this_told a_this_st a_this_text v_this_letters v_this_place v_this_token v_this_value v_this_begins a_this_read v_this_clauses a_this_ahead v_this_undoMany a_this_isKept a_this_kept v_this_fewestMany v_this_fewestSets v_this_fewestSet v_this_fewestMost a_this_aside a_this_seens v_this_seenMany v_this_told y7 y9 hy10) gX9_oneDay_X9_warmBy rfl hyV_X9_warmBy ⟨rfl, rfl, (Nat.le_of_ble_eq_true rfl), (Nat.le_of_ble_eq_true rfl)⟩ rfl 0 rfl rfl [0, 1] rfl rfl rfl (Nat.le_of_ble_eq_true rfl) ⟨Nat.zero_le _, Nat.zero_le _⟩ dX9_oneDay_41 ?_
      refine r_goto C 48 dX9_oneDay_44 (by decide) ?_
      exact ST_lv [1, 2, 3, 0] rfl (hb_48 x1 x2 s0 y9 v_this_st hf)
  have hb_29 : ∀ (x1 : Int32) (x2 : Int32) (v_this_st : Nat → Int32), f_X9_oneDay_b29 v_this_told x1 x2 v_this_st = some res → Z (w_X9_oneDay cyI cyZ cyW a_this a_this_told a_this_st a_this_text v_this_letters v_this_place v_this_token v_this_value v_this_begins a_this_read v_this_clauses a_this_ahead v_this_undoMany a_this_isKept a_this_kept v_this_fewestMany v_this_fewestSets v_this_fewestSet v_this_fewestMost a_this_aside a_this_seens v_this_seenMany v_this_told v_this_st) 29 [(0, .ref a_this), (1, .int x1), (2, .int x2)] [] := by
    subst hZ
    intro x1 x2 v_this_st hf
    refine r_iconst C 0 dX9_oneDay_29 (by decide) ?_
    exact ST_lv [0, 1, 2] rfl (hb_30 x1 x2 0 v_this_st hf)
  subst hZ
  refine r_aload_n C dX9_oneDay_0 rfl 0 rfl ?_
  obtain ⟨y1, hy2, hf⟩ := bd_some hf
  refine r_roV_i (As := []) (rest := []) C (c_X9_coldNow l D cyI cyZ cyW a_this a_this_told a_this_st a_this_text v_this_letters v_this_place v_this_token v_this_value v_this_begins a_this_read v_this_clauses a_this_ahead v_this_undoMany a_this_isKept a_this_kept v_this_fewestMany v_this_fewestSets v_this_fewestSet v_this_fewestMost a_this_aside a_this_seens v_this_seenMany v_this_told v_this_st y1 hy2) gX9_oneDay_X9_coldNow rfl hyV_X9_coldNow ⟨rfl, rfl, (Nat.le_of_ble_eq_true rfl), (Nat.le_of_ble_eq_true rfl)⟩ rfl 0 rfl rfl [0, 1, 2] rfl rfl rfl (Nat.le_of_ble_eq_true rfl) ⟨Nat.zero_le _, Nat.zero_le _⟩ dX9_oneDay_1 ?_
  refine r_istore_n (lv' := [(2, .int y1), (0, .ref a_this), (1, .int x1)]) C dX9_oneDay_4 rfl (by decide) rfl ?_
  refine r_iload_n C dX9_oneDay_5 rfl 2 rfl ?_
  refine r_if_lt C 29 dX9_oneDay_6 (by decide) hf (fun hf => ?_) (fun hf => ?_)
  · exact ST_lv [1, 2, 0] rfl (hb_29 x1 y1 v_this_st hf)
  · refine r_aload_n C dX9_oneDay_9 rfl 1 rfl ?_
    refine r_iload_n C dX9_oneDay_10 rfl 2 rfl ?_
    obtain ⟨y3, hy4, hf⟩ := bd_some hf
    refine r_roV_i (As := [.int x1]) (rest := []) C (c_X9_isFrozen l D cyI cyZ cyW a_this a_this_told a_this_st a_this_text v_this_letters v_this_place v_this_token v_this_value v_this_begins a_this_read v_this_clauses a_this_ahead v_this_undoMany a_this_isKept a_this_kept v_this_fewestMany v_this_fewestSets v_this_fewestSet v_this_fewestMost a_this_aside a_this_seens v_this_seenMany v_this_st x1 y3 hy4) gX9_oneDay_X9_isFrozen rfl hyV_X9_isFrozen ⟨rfl, rfl, (Nat.le_of_ble_eq_true rfl), (Nat.le_of_ble_eq_true rfl)⟩ rfl 0 rfl rfl [0, 2] rfl rfl rfl (Nat.le_of_ble_eq_true rfl) ⟨Nat.zero_le _, Nat.zero_le _⟩ dX9_oneDay_11 ?_
    refine r_if_ne C 29 dX9_oneDay_14 (by decide) hf (fun hf => ?_) (fun hf => ?_)
    · exact ST_lv [1, 2, 0] rfl (hb_29 x1 y1 v_this_st hf)
    · refine r_aload_n C dX9_oneDay_17 rfl 1 rfl ?_
      refine r_iload_n C dX9_oneDay_18 rfl 2 rfl ?_
      obtain ⟨y5, hy6, hf⟩ := bd_some hf
      refine r_roV_i (As := [.int x1]) (rest := []) C (c_X9_isCarried l D cyI cyZ cyW a_this a_this_told a_this_st a_this_text v_this_letters v_this_place v_this_token v_this_value v_this_begins a_this_read v_this_clauses a_this_ahead v_this_undoMany a_this_isKept a_this_kept v_this_fewestMany v_this_fewestSets v_this_fewestSet v_this_fewestMost a_this_aside a_this_seens v_this_seenMany v_this_told v_this_st x1 y5 hy6) gX9_oneDay_X9_isCarried rfl hyV_X9_isCarried ⟨rfl, rfl, (Nat.le_of_ble_eq_true rfl), (Nat.le_of_ble_eq_true rfl)⟩ rfl 0 rfl rfl [0, 1, 2] rfl rfl rfl (Nat.le_of_ble_eq_true rfl) ⟨Nat.zero_le _, Nat.zero_le _⟩ dX9_oneDay_19 ?_
      refine r_if_eq C 29 dX9_oneDay_22 (by decide) hf (fun hf => ?_) (fun hf => ?_)
      · exact ST_lv [1, 2, 0] rfl (hb_29 x1 y1 v_this_st hf)
      · refine r_iconst C 1 dX9_oneDay_25 (by decide) ?_
        refine r_goto C 30 dX9_oneDay_26 (by decide) ?_
        exact ST_lv [1, 2, 0] rfl (hb_30 x1 y1 1 v_this_st hf)

theorem lk_X9_day_1 : Cond.fieldLink RX9 13 "ParishCoatModel" "st" "[I" ∈ wsX9_day := List.mem_of_getElem? (i := 1) rfl
theorem in_X9_day_X9 : ∀ w ∈ u_ws RX9 TX9 21, w ∈ wsX9_day := fun _ h => List.mem_cons_of_mem _ (List.mem_append_right _ h)
theorem hyV_X9_oneDay : yX9_oneDay.cls = RX9 ∧ yX9_oneDay.cls ≠ "java/lang/invoke/MethodHandle" ∧ yX9_oneDay.cls ≠ "java/lang/invoke/VarHandle" ∧ (parseMethodDescriptor yX9_oneDay.desc).map (fun d => d.parameters.length) = some 1 := by decide +kernel
theorem hyS_X9_oneDay : yX9_oneDay.cls ≠ "java/lang/invoke/MethodHandle" ∧ yX9_oneDay.cls ≠ "java/lang/invoke/VarHandle" ∧ (parseMethodDescriptor yX9_oneDay.desc).map (fun d => d.parameters.length) = some 1 := by decide +kernel
def f_X9_day_b31 (v_this_told : Nat → Int32) (x1 : Int32) (v_this_undoMany : Int32) (v_this_st : Nat → Int32) (v_this_ahead : Nat → Int32) : Option (Int32 × Int32 × (Nat → Int32) × (Nat → Int32)) := if (v_this_st 14) = 999 then (some ((-5), v_this_undoMany, v_this_st, v_this_ahead)) else (bd2 (f_X9_note v_this_undoMany v_this_ahead v_this_st) (fun y5_0 y5_1 => bd2 (f_X9_oneDay v_this_told v_this_st x1) (fun y7_0 y7_1 => some (y7_0, y5_0, y7_1, y5_1))))
def f_X9_day_b16 (v_this_told : Nat → Int32) (x1 : Int32) (v_this_undoMany : Int32) (v_this_st : Nat → Int32) (v_this_ahead : Nat → Int32) : Option (Int32 × Int32 × (Nat → Int32) × (Nat → Int32)) := if x1 < 0 then (f_X9_day_b31 v_this_told x1 v_this_undoMany v_this_st v_this_ahead) else ((f_X9_isFrozen v_this_st x1).bind fun y3 => if y3 = 0 then (f_X9_day_b31 v_this_told x1 v_this_undoMany v_this_st v_this_ahead) else (some ((-4), v_this_undoMany, v_this_st, v_this_ahead)))
def f_X9_day (v_this_undoMany : Int32) (v_this_told : Nat → Int32) (v_this_st : Nat → Int32) (v_this_ahead : Nat → Int32) (x1 : Int32) : Option (Int32 × Int32 × (Nat → Int32) × (Nat → Int32)) := if x1 = (-1) then (f_X9_day_b16 v_this_told x1 v_this_undoMany v_this_st v_this_ahead) else ((f_X9_isFamily v_this_told x1).bind fun y1 => if y1 = 0 then (some ((-2), v_this_undoMany, v_this_st, v_this_ahead)) else (f_X9_day_b16 v_this_told x1 v_this_undoMany v_this_st v_this_ahead))
def w_X9_day (cyI cyZ cyW : ClassId) (a_this : Nat) (a_this_told : Nat) (a_this_st : Nat) (a_this_text : Nat) (v_this_letters : Int32) (v_this_place : Int32) (v_this_token : Int32) (v_this_value : Int32) (v_this_begins : Int32) (a_this_read : Nat) (v_this_clauses : Int32) (a_this_ahead : Nat) (v_this_undoMany : Int32) (a_this_isKept : Nat) (a_this_kept : Nat) (v_this_fewestMany : Int32) (v_this_fewestSets : Int32) (v_this_fewestSet : Int32) (v_this_fewestMost : Int32) (a_this_aside : Nat) (a_this_seens : Nat) (v_this_seenMany : Int32) (v_this_told : Nat → Int32) (v_this_st : Nat → Int32) (v_this_ahead : Nat → Int32) : va_W := [(a_this, .inr (9, [.ref a_this_told, .ref a_this_st, .ref a_this_text, .int v_this_letters, .int v_this_place, .int v_this_token, .int v_this_value, .int v_this_begins, .ref a_this_read, .int v_this_clauses, .ref a_this_ahead, .int v_this_undoMany, .ref a_this_isKept, .ref a_this_kept, .int v_this_fewestMany, .int v_this_fewestSets, .int v_this_fewestSet, .int v_this_fewestMost, .ref a_this_aside, .ref a_this_seens, .int v_this_seenMany])), (a_this_told, .inl (cyI, 37, .inl v_this_told)), (a_this_st, .inl (cyI, 15, .inl v_this_st)), (a_this_ahead, .inl (cyI, 120, .inl v_this_ahead))]
set_option maxHeartbeats 4000000 in
set_option maxRecDepth 100000 in
theorem c_X9_day (l : Launch) (D : va_G) (cyI cyZ cyW : ClassId) (a_this : Nat) (a_this_told : Nat) (a_this_st : Nat) (a_this_text : Nat) (v_this_letters : Int32) (v_this_place : Int32) (v_this_token : Int32) (v_this_value : Int32) (v_this_begins : Int32) (a_this_read : Nat) (v_this_clauses : Int32) (a_this_ahead : Nat) (v_this_undoMany : Int32) (a_this_isKept : Nat) (a_this_kept : Nat) (v_this_fewestMany : Int32) (v_this_fewestSets : Int32) (v_this_fewestSet : Int32) (v_this_fewestMost : Int32) (a_this_aside : Nat) (a_this_seens : Nat) (v_this_seenMany : Int32) (v_this_told : Nat → Int32) (v_this_st : Nat → Int32) (v_this_ahead : Nat → Int32) (x1 : Int32) (res : Int32 × Int32 × (Nat → Int32) × (Nat → Int32)) (hf : f_X9_day v_this_undoMany v_this_told v_this_st v_this_ahead x1 = some res) : ∀ sz, Met l yX9_day wsX9_day { frames := 6, cells := 0, slots := 0, locals := 132 } (PCx D (tyG cyI cyZ cyW) [.ref a_this, .int x1] (w_X9_day cyI cyZ cyW a_this a_this_told a_this_st a_this_text v_this_letters v_this_place v_this_token v_this_value v_this_begins a_this_read v_this_clauses a_this_ahead v_this_undoMany a_this_isKept a_this_kept v_this_fewestMany v_this_fewestSets v_this_fewestSet v_this_fewestMost a_this_aside a_this_seens v_this_seenMany v_this_told v_this_st v_this_ahead) sz) (QI D (tyG cyI cyZ cyW) (w_X9_day cyI cyZ cyW a_this a_this_told a_this_st a_this_text v_this_letters v_this_place v_this_token v_this_value v_this_begins a_this_read v_this_clauses a_this_ahead v_this_undoMany a_this_isKept a_this_kept v_this_fewestMany v_this_fewestSets v_this_fewestSet v_this_fewestMost a_this_aside a_this_seens v_this_seenMany v_this_told v_this_st v_this_ahead) sz res.1 (w_X9_day cyI cyZ cyW a_this a_this_told a_this_st a_this_text v_this_letters v_this_place v_this_token v_this_value v_this_begins a_this_read v_this_clauses a_this_ahead res.2.1 a_this_isKept a_this_kept v_this_fewestMany v_this_fewestSets v_this_fewestSet v_this_fewestMost a_this_aside a_this_seens v_this_seenMany v_this_told res.2.2.1 res.2.2.2)) 0 0 (va_A (w_X9_day cyI cyZ cyW a_this a_this_told a_this_st a_this_text v_this_letters v_this_place v_this_token v_this_value v_this_begins a_this_read v_this_clauses a_this_ahead v_this_undoMany a_this_isKept a_this_kept v_this_fewestMany v_this_fewestSets v_this_fewestSet v_this_fewestMost a_this_aside a_this_seens v_this_seenMany v_this_told v_this_st v_this_ahead) sz) := by
  intro sz
  refine met_of (cc := cX9_day) (maxL := 2) (ret := (some .int)) (lv0 := [(0, .ref a_this), (1, .int x1)]) (by decide) rfl ⟨(Nat.le_of_ble_eq_true rfl), rfl⟩ ?_
  intro p e s m below meth c C hr hlk hnm hsz
  subst hsz
  have C : CX p s m _ c 2 cX9_day RX9 wsX9_day D (tyG cyI cyZ cyW) _ := C
  obtain ⟨Z, hZ⟩ : ∃ Z : va_W → Nat → LV → List Value → Prop, Z = ST p l e { frames := 6, cells := 0, slots := 0, locals := 132 } s m [.ref a_this, .int x1].toArray below meth c 2 D (va_A (w_X9_day cyI cyZ cyW a_this a_this_told a_this_st a_this_text v_this_letters v_this_place v_this_token v_this_value v_this_begins a_this_read v_this_clauses a_this_ahead v_this_undoMany a_this_isKept a_this_kept v_this_fewestMany v_this_fewestSets v_this_fewestSet v_this_fewestMost a_this_aside a_this_seens v_this_seenMany v_this_told v_this_st v_this_ahead) s.heap.size) (MQ below (QI D (tyG cyI cyZ cyW) (w_X9_day cyI cyZ cyW a_this a_this_told a_this_st a_this_text v_this_letters v_this_place v_this_token v_this_value v_this_begins a_this_read v_this_clauses a_this_ahead v_this_undoMany a_this_isKept a_this_kept v_this_fewestMany v_this_fewestSets v_this_fewestSet v_this_fewestMost a_this_aside a_this_seens v_this_seenMany v_this_told v_this_st v_this_ahead) s.heap.size res.1 (w_X9_day cyI cyZ cyW a_this a_this_told a_this_st a_this_text v_this_letters v_this_place v_this_token v_this_value v_this_begins a_this_read v_this_clauses a_this_ahead res.2.1 a_this_isKept a_this_kept v_this_fewestMany v_this_fewestSets v_this_fewestSet v_this_fewestMost a_this_aside a_this_seens v_this_seenMany v_this_told res.2.2.1 res.2.2.2)) [.ref a_this, .int x1].toArray s 0 0 (va_A (w_X9_day cyI cyZ cyW a_this a_this_told a_this_st a_this_text v_this_letters v_this_place v_this_token v_this_value v_this_begins a_this_read v_this_clauses a_this_ahead v_this_undoMany a_this_isKept a_this_kept v_this_fewestMany v_this_fewestSets v_this_fewestSet v_this_fewestMost a_this_aside a_this_seens v_this_seenMany v_this_told v_this_st v_this_ahead) s.heap.size)) 0 0 := ⟨_, rfl⟩
  have hb_31 : ∀ (x1 : Int32) (v_this_undoMany : Int32) (v_this_st : Nat → Int32) (v_this_ahead : Nat → Int32), f_X9_day_b31 v_this_told x1 v_this_undoMany v_this_st v_this_ahead = some res → Z (w_X9_day cyI cyZ cyW a_this a_this_told a_this_st a_this_text v_this_letters v_this_place v_this_token v_this_value v_this_begins a_this_read v_this_clauses a_this_ahead v_this_undoMany a_this_isKept a_this_kept v_this_fewestMany v_this_fewestSets v_this_fewestSet v_this_fewestMost a_this_aside a_this_seens v_this_seenMany v_this_told v_this_st v_this_ahead) 31 [(0, .ref a_this), (1, .int x1)] [] := by
    subst hZ
    intro x1 v_this_undoMany v_this_st v_this_ahead hf
    refine r_aload_n C dX9_day_31 rfl 0 rfl ?_
    refine r_get C in_X9_day_X9 0 rfl rfl 1 (by decide) lk_X9_day_1 rfl rfl dX9_day_32 ?_
    refine r_bipush C 14 dX9_day_35 (by decide) ?_
    refine r_iald_k C 14 2 0 rfl rfl (kk_ 14 15 (by decide) (by decide)) dX9_day_37 ?_
    refine r_sipush C 999 dX9_day_38 (by decide) ?_
    refine r_icmp_ne C 47 dX9_day_41 (by decide) hf (fun hf => ?_) (fun hf => ?_)
    · refine r_aload_n C dX9_day_47 rfl 0 rfl ?_
      obtain ⟨y5_0, y5_1, hy6, hf⟩ := bd2_some hf
      refine r_callV_v (As := []) (rest := []) (ws' := (w_X9_day cyI cyZ cyW a_this a_this_told a_this_st a_this_text v_this_letters v_this_place v_this_token v_this_value v_this_begins a_this_read v_this_clauses a_this_ahead y5_0 a_this_isKept a_this_kept v_this_fewestMany v_this_fewestSets v_this_fewestSet v_this_fewestMost a_this_aside a_this_seens v_this_seenMany v_this_told v_this_st y5_1)) C (c_X9_note l D cyI cyZ cyW a_this a_this_told a_this_st a_this_text v_this_letters v_this_place v_this_token v_this_value v_this_begins a_this_read v_this_clauses a_this_ahead v_this_undoMany a_this_isKept a_this_kept v_this_fewestMany v_this_fewestSets v_this_fewestSet v_this_fewestMost a_this_aside a_this_seens v_this_seenMany v_this_ahead v_this_st (y5_0, y5_1) hy6) gX9_day_X9_note rfl hyV_X9_note ⟨rfl, rfl, (Nat.le_of_ble_eq_true rfl), (Nat.le_of_ble_eq_true rfl)⟩ rfl 0 rfl rfl [0, 3, 2] rfl rfl rfl rfl rfl (Nat.le_of_ble_eq_true rfl) ⟨Nat.zero_le _, Nat.zero_le _⟩ dX9_day_48 ?_
      refine r_aload_n C dX9_day_51 rfl 0 rfl ?_
      refine r_iload_n C dX9_day_52 rfl 1 rfl ?_
      obtain ⟨y7_0, y7_1, hy8, hf⟩ := bd2_some hf
      refine r_callV_i (As := [.int x1]) (rest := []) (ws' := (w_X9_day cyI cyZ cyW a_this a_this_told a_this_st a_this_text v_this_letters v_this_place v_this_token v_this_value v_this_begins a_this_read v_this_clauses a_this_ahead y5_0 a_this_isKept a_this_kept v_this_fewestMany v_this_fewestSets v_this_fewestSet v_this_fewestMost a_this_aside a_this_seens v_this_seenMany v_this_told y7_1 y5_1)) C (c_X9_oneDay l D cyI cyZ cyW a_this a_this_told a_this_st a_this_text v_this_letters v_this_place v_this_token v_this_value v_this_begins a_this_read v_this_clauses a_this_ahead y5_0 a_this_isKept a_this_kept v_this_fewestMany v_this_fewestSets v_this_fewestSet v_this_fewestMost a_this_aside a_this_seens v_this_seenMany v_this_told v_this_st x1 (y7_0, y7_1) hy8) gX9_day_X9_oneDay rfl hyV_X9_oneDay ⟨rfl, rfl, (Nat.le_of_ble_eq_true rfl), (Nat.le_of_ble_eq_true rfl)⟩ rfl 0 rfl rfl [0, 1, 2] rfl rfl rfl rfl rfl (Nat.le_of_ble_eq_true rfl) ⟨Nat.zero_le _, Nat.zero_le _⟩ dX9_day_53 ?_
      rw [← Option.some.inj hf]
      exact r_iret C hr hlk dX9_day_56
    · refine r_bipush C (-5) dX9_day_44 (by decide) ?_
      rw [← Option.some.inj hf]
      exact r_iret C hr hlk dX9_day_46
  have hb_16 : ∀ (x1 : Int32) (v_this_undoMany : Int32) (v_this_st : Nat → Int32) (v_this_ahead : Nat → Int32), f_X9_day_b16 v_this_told x1 v_this_undoMany v_this_st v_this_ahead = some res → Z (w_X9_day cyI cyZ cyW a_this a_this_told a_this_st a_this_text v_this_letters v_this_place v_this_token v_this_value v_this_begins a_this_read v_this_clauses a_this_ahead v_this_undoMany a_this_isKept a_this_kept v_this_fewestMany v_this_fewestSets v_this_fewestSet v_this_fewestMost a_this_aside a_this_seens v_this_seenMany v_this_told v_this_st v_this_ahead) 16 [(0, .ref a_this), (1, .int x1)] [] := by
    subst hZ
    intro x1 v_this_undoMany v_this_st v_this_ahead hf
    refine r_iload_n C dX9_day_16 rfl 1 rfl ?_
    refine r_if_lt C 31 dX9_day_17 (by decide) hf (fun hf => ?_) (fun hf => ?_)
    · exact ST_lv [0, 1] rfl (hb_31 x1 v_this_undoMany v_this_st v_this_ahead hf)
    · refine r_aload_n C dX9_day_20 rfl 0 rfl ?_
      refine r_iload_n C dX9_day_21 rfl 1 rfl ?_
      obtain ⟨y3, hy4, hf⟩ := bd_some hf
      refine r_roV_i (As := [.int x1]) (rest := []) C (c_X9_isFrozen l D cyI cyZ cyW a_this a_this_told a_this_st a_this_text v_this_letters v_this_place v_this_token v_this_value v_this_begins a_this_read v_this_clauses a_this_ahead v_this_undoMany a_this_isKept a_this_kept v_this_fewestMany v_this_fewestSets v_this_fewestSet v_this_fewestMost a_this_aside a_this_seens v_this_seenMany v_this_st x1 y3 hy4) gX9_day_X9_isFrozen rfl hyV_X9_isFrozen ⟨rfl, rfl, (Nat.le_of_ble_eq_true rfl), (Nat.le_of_ble_eq_true rfl)⟩ rfl 0 rfl rfl [0, 2] rfl rfl rfl (Nat.le_of_ble_eq_true rfl) ⟨Nat.zero_le _, Nat.zero_le _⟩ dX9_day_22 ?_
      refine r_if_eq C 31 dX9_day_25 (by decide) hf (fun hf => ?_) (fun hf => ?_)
      · exact ST_lv [0, 1] rfl (hb_31 x1 v_this_undoMany v_this_st v_this_ahead hf)
      · refine r_bipush C (-4) dX9_day_28 (by decide) ?_
        rw [← Option.some.inj hf]
        exact r_iret C hr hlk dX9_day_30
  subst hZ
  refine r_iload_n C dX9_day_0 rfl 1 rfl ?_
  refine r_iconst C (-1) dX9_day_1 (by decide) ?_
  refine r_icmp_eq C 16 dX9_day_2 (by decide) hf (fun hf => ?_) (fun hf => ?_)
  · exact ST_lv [0, 1] rfl (hb_16 x1 v_this_undoMany v_this_st v_this_ahead hf)
  · refine r_aload_n C dX9_day_5 rfl 0 rfl ?_
    refine r_iload_n C dX9_day_6 rfl 1 rfl ?_
    obtain ⟨y1, hy2, hf⟩ := bd_some hf
    refine r_roV_i (As := [.int x1]) (rest := []) C (c_X9_isFamily l D cyI cyZ cyW a_this a_this_told a_this_st a_this_text v_this_letters v_this_place v_this_token v_this_value v_this_begins a_this_read v_this_clauses a_this_ahead v_this_undoMany a_this_isKept a_this_kept v_this_fewestMany v_this_fewestSets v_this_fewestSet v_this_fewestMost a_this_aside a_this_seens v_this_seenMany v_this_told x1 y1 hy2) gX9_day_X9_isFamily rfl hyV_X9_isFamily ⟨rfl, rfl, (Nat.le_of_ble_eq_true rfl), (Nat.le_of_ble_eq_true rfl)⟩ rfl 0 rfl rfl [0, 1] rfl rfl rfl (Nat.le_of_ble_eq_true rfl) ⟨Nat.zero_le _, Nat.zero_le _⟩ dX9_day_7 ?_
    refine r_if_ne C 16 dX9_day_10 (by decide) hf (fun hf => ?_) (fun hf => ?_)
    · exact ST_lv [0, 1] rfl (hb_16 x1 v_this_undoMany v_this_st v_this_ahead hf)
    · refine r_bipush C (-2) dX9_day_13 (by decide) ?_
      rw [← Option.some.inj hf]
      exact r_iret C hr hlk dX9_day_15

theorem lk_X9_undo_1 : Cond.fieldLink RX9 114 "ParishCoatModel" "undoMany" "I" ∈ wsX9_undo := List.mem_of_getElem? (i := 1) rfl
theorem lk_X9_undo_2 : Cond.fieldLink RX9 13 "ParishCoatModel" "st" "[I" ∈ wsX9_undo := List.mem_of_getElem? (i := 2) rfl
theorem lk_X9_undo_3 : Cond.fieldLink RX9 22 "ParishCoatModel" "ahead" "[I" ∈ wsX9_undo := List.mem_of_getElem? (i := 3) rfl
theorem in_X9_undo_X9 : ∀ w ∈ u_ws RX9 TX9 21, w ∈ wsX9_undo := fun _ h => List.mem_cons_of_mem _ (List.mem_append_right _ h)
def f_X9_undo_s22 (v_this_ahead : Nat → Int32) (k_22 : Int32 → Int32 → (Nat → Int32) → Option (Int32 × Int32 × (Nat → Int32))) (x1 : Int32) (v_this_undoMany : Int32) (v_this_st : Nat → Int32) : Option (Int32 × Int32 × (Nat → Int32)) := if 15 ≤ x1 then (some (v_this_undoMany, v_this_undoMany, v_this_st)) else (gd_ ((15 * v_this_undoMany) + x1) 120 (gd_ x1 15 (k_22 (x1 + 1) v_this_undoMany (upd v_this_st (Int32.toNatClampNeg x1) (v_this_ahead (Int32.toNatClampNeg ((15 * v_this_undoMany) + x1)))))))
def f_X9_undo_b22 (v_this_ahead : Nat → Int32) (n : Nat) : Int32 → Int32 → (Nat → Int32) → Option (Int32 × Int32 × (Nat → Int32)) := it_ (f_X9_undo_s22 v_this_ahead ) (fun _ _ _ => none) n
def f_X9_undo (v_this_undoMany : Int32) (v_this_ahead : Nat → Int32) (v_this_st : Nat → Int32) : Option (Int32 × Int32 × (Nat → Int32)) := if v_this_undoMany = 0 then (some ((-4), v_this_undoMany, v_this_st)) else (f_X9_undo_b22 v_this_ahead 5000 0 (v_this_undoMany - 1) v_this_st)
def w_X9_undo (cyI cyZ cyW : ClassId) (a_this : Nat) (a_this_told : Nat) (a_this_st : Nat) (a_this_text : Nat) (v_this_letters : Int32) (v_this_place : Int32) (v_this_token : Int32) (v_this_value : Int32) (v_this_begins : Int32) (a_this_read : Nat) (v_this_clauses : Int32) (a_this_ahead : Nat) (v_this_undoMany : Int32) (a_this_isKept : Nat) (a_this_kept : Nat) (v_this_fewestMany : Int32) (v_this_fewestSets : Int32) (v_this_fewestSet : Int32) (v_this_fewestMost : Int32) (a_this_aside : Nat) (a_this_seens : Nat) (v_this_seenMany : Int32) (v_this_ahead : Nat → Int32) (v_this_st : Nat → Int32) : va_W := [(a_this, .inr (9, [.ref a_this_told, .ref a_this_st, .ref a_this_text, .int v_this_letters, .int v_this_place, .int v_this_token, .int v_this_value, .int v_this_begins, .ref a_this_read, .int v_this_clauses, .ref a_this_ahead, .int v_this_undoMany, .ref a_this_isKept, .ref a_this_kept, .int v_this_fewestMany, .int v_this_fewestSets, .int v_this_fewestSet, .int v_this_fewestMost, .ref a_this_aside, .ref a_this_seens, .int v_this_seenMany])), (a_this_ahead, .inl (cyI, 120, .inl v_this_ahead)), (a_this_st, .inl (cyI, 15, .inl v_this_st))]
set_option maxHeartbeats 4000000 in
set_option maxRecDepth 100000 in
theorem c_X9_undo (l : Launch) (D : va_G) (cyI cyZ cyW : ClassId) (a_this : Nat) (a_this_told : Nat) (a_this_st : Nat) (a_this_text : Nat) (v_this_letters : Int32) (v_this_place : Int32) (v_this_token : Int32) (v_this_value : Int32) (v_this_begins : Int32) (a_this_read : Nat) (v_this_clauses : Int32) (a_this_ahead : Nat) (v_this_undoMany : Int32) (a_this_isKept : Nat) (a_this_kept : Nat) (v_this_fewestMany : Int32) (v_this_fewestSets : Int32) (v_this_fewestSet : Int32) (v_this_fewestMost : Int32) (a_this_aside : Nat) (a_this_seens : Nat) (v_this_seenMany : Int32) (v_this_ahead : Nat → Int32) (v_this_st : Nat → Int32) (res : Int32 × Int32 × (Nat → Int32)) (hf : f_X9_undo v_this_undoMany v_this_ahead v_this_st = some res) : ∀ sz, Met l yX9_undo wsX9_undo { frames := 0, cells := 0, slots := 0, locals := 0 } (PCx D (tyG cyI cyZ cyW) [.ref a_this] (w_X9_undo cyI cyZ cyW a_this a_this_told a_this_st a_this_text v_this_letters v_this_place v_this_token v_this_value v_this_begins a_this_read v_this_clauses a_this_ahead v_this_undoMany a_this_isKept a_this_kept v_this_fewestMany v_this_fewestSets v_this_fewestSet v_this_fewestMost a_this_aside a_this_seens v_this_seenMany v_this_ahead v_this_st) sz) (QI D (tyG cyI cyZ cyW) (w_X9_undo cyI cyZ cyW a_this a_this_told a_this_st a_this_text v_this_letters v_this_place v_this_token v_this_value v_this_begins a_this_read v_this_clauses a_this_ahead v_this_undoMany a_this_isKept a_this_kept v_this_fewestMany v_this_fewestSets v_this_fewestSet v_this_fewestMost a_this_aside a_this_seens v_this_seenMany v_this_ahead v_this_st) sz res.1 (w_X9_undo cyI cyZ cyW a_this a_this_told a_this_st a_this_text v_this_letters v_this_place v_this_token v_this_value v_this_begins a_this_read v_this_clauses a_this_ahead res.2.1 a_this_isKept a_this_kept v_this_fewestMany v_this_fewestSets v_this_fewestSet v_this_fewestMost a_this_aside a_this_seens v_this_seenMany v_this_ahead res.2.2)) 0 0 (va_A (w_X9_undo cyI cyZ cyW a_this a_this_told a_this_st a_this_text v_this_letters v_this_place v_this_token v_this_value v_this_begins a_this_read v_this_clauses a_this_ahead v_this_undoMany a_this_isKept a_this_kept v_this_fewestMany v_this_fewestSets v_this_fewestSet v_this_fewestMost a_this_aside a_this_seens v_this_seenMany v_this_ahead v_this_st) sz) := by
  intro sz
  refine met_of (cc := cX9_undo) (maxL := 2) (ret := (some .int)) (lv0 := [(0, .ref a_this)]) (by decide) rfl ⟨(Nat.le_of_ble_eq_true rfl), rfl⟩ ?_
  intro p e s m below meth c C hr hlk hnm hsz
  subst hsz
  have C : CX p s m _ c 2 cX9_undo RX9 wsX9_undo D (tyG cyI cyZ cyW) _ := C
  obtain ⟨Z, hZ⟩ : ∃ Z : va_W → Nat → LV → List Value → Prop, Z = ST p l e { frames := 0, cells := 0, slots := 0, locals := 0 } s m [.ref a_this].toArray below meth c 2 D (va_A (w_X9_undo cyI cyZ cyW a_this a_this_told a_this_st a_this_text v_this_letters v_this_place v_this_token v_this_value v_this_begins a_this_read v_this_clauses a_this_ahead v_this_undoMany a_this_isKept a_this_kept v_this_fewestMany v_this_fewestSets v_this_fewestSet v_this_fewestMost a_this_aside a_this_seens v_this_seenMany v_this_ahead v_this_st) s.heap.size) (MQ below (QI D (tyG cyI cyZ cyW) (w_X9_undo cyI cyZ cyW a_this a_this_told a_this_st a_this_text v_this_letters v_this_place v_this_token v_this_value v_this_begins a_this_read v_this_clauses a_this_ahead v_this_undoMany a_this_isKept a_this_kept v_this_fewestMany v_this_fewestSets v_this_fewestSet v_this_fewestMost a_this_aside a_this_seens v_this_seenMany v_this_ahead v_this_st) s.heap.size res.1 (w_X9_undo cyI cyZ cyW a_this a_this_told a_this_st a_this_text v_this_letters v_this_place v_this_token v_this_value v_this_begins a_this_read v_this_clauses a_this_ahead res.2.1 a_this_isKept a_this_kept v_this_fewestMany v_this_fewestSets v_this_fewestSet v_this_fewestMost a_this_aside a_this_seens v_this_seenMany v_this_ahead res.2.2)) [.ref a_this].toArray s 0 0 (va_A (w_X9_undo cyI cyZ cyW a_this a_this_told a_this_st a_this_text v_this_letters v_this_place v_this_token v_this_value v_this_begins a_this_read v_this_clauses a_this_ahead v_this_undoMany a_this_isKept a_this_kept v_this_fewestMany v_this_fewestSets v_this_fewestSet v_this_fewestMost a_this_aside a_this_seens v_this_seenMany v_this_ahead v_this_st) s.heap.size)) 0 0 := ⟨_, rfl⟩
  have hs_22 : ∀ (k_22 : Int32 → Int32 → (Nat → Int32) → Option (Int32 × Int32 × (Nat → Int32))), (∀ (x1 : Int32) (v_this_undoMany : Int32) (v_this_st : Nat → Int32), k_22 x1 v_this_undoMany v_this_st = some res → Z (w_X9_undo cyI cyZ cyW a_this a_this_told a_this_st a_this_text v_this_letters v_this_place v_this_token v_this_value v_this_begins a_this_read v_this_clauses a_this_ahead v_this_undoMany a_this_isKept a_this_kept v_this_fewestMany v_this_fewestSets v_this_fewestSet v_this_fewestMost a_this_aside a_this_seens v_this_seenMany v_this_ahead v_this_st) 22 [(0, .ref a_this), (1, .int x1)] []) → ∀ (x1 : Int32) (v_this_undoMany : Int32) (v_this_st : Nat → Int32), f_X9_undo_s22 v_this_ahead k_22 x1 v_this_undoMany v_this_st = some res → Z (w_X9_undo cyI cyZ cyW a_this a_this_told a_this_st a_this_text v_this_letters v_this_place v_this_token v_this_value v_this_begins a_this_read v_this_clauses a_this_ahead v_this_undoMany a_this_isKept a_this_kept v_this_fewestMany v_this_fewestSets v_this_fewestSet v_this_fewestMost a_this_aside a_this_seens v_this_seenMany v_this_ahead v_this_st) 22 [(0, .ref a_this), (1, .int x1)] [] := by
    subst hZ
    intro k_22 hk_22 x1 v_this_undoMany v_this_st hf
    refine r_iload_n C dX9_undo_22 rfl 1 rfl ?_
    refine r_bipush C 15 dX9_undo_23 (by decide) ?_
    refine r_icmp_ge C 54 dX9_undo_25 (by decide) hf (fun hf => ?_) (fun hf => ?_)
    · refine r_aload_n C dX9_undo_54 rfl 0 rfl ?_
      refine r_get C in_X9_undo_X9 0 rfl rfl 11 (by decide) lk_X9_undo_1 rfl rfl dX9_undo_55 ?_
      rw [← Option.some.inj hf]
      exact r_iret C hr hlk dX9_undo_58
    · refine r_aload_n C dX9_undo_28 rfl 0 rfl ?_
      refine r_get C in_X9_undo_X9 0 rfl rfl 1 (by decide) lk_X9_undo_2 rfl rfl dX9_undo_29 ?_
      refine r_iload_n C dX9_undo_32 rfl 1 rfl ?_
      refine r_aload_n C dX9_undo_33 rfl 0 rfl ?_
      refine r_get C in_X9_undo_X9 0 rfl rfl 10 (by decide) lk_X9_undo_3 rfl rfl dX9_undo_34 ?_
      refine r_bipush C 15 dX9_undo_37 (by decide) ?_
      refine r_aload_n C dX9_undo_39 rfl 0 rfl ?_
      refine r_get C in_X9_undo_X9 0 rfl rfl 11 (by decide) lk_X9_undo_1 rfl rfl dX9_undo_40 ?_
      refine r_imul C dX9_undo_43 ?_
      refine r_iload_n C dX9_undo_44 rfl 1 rfl ?_
      refine r_iadd C dX9_undo_45 ?_
      obtain ⟨hi1, hf⟩ := gd_some hf
      refine r_iald C 1 0 rfl rfl hi1 dX9_undo_46 ?_
      obtain ⟨hi2, hf⟩ := gd_some hf
      refine r_iast (ws' := (w_X9_undo cyI cyZ cyW a_this a_this_told a_this_st a_this_text v_this_letters v_this_place v_this_token v_this_value v_this_begins a_this_read v_this_clauses a_this_ahead v_this_undoMany a_this_isKept a_this_kept v_this_fewestMany v_this_fewestSets v_this_fewestSet v_this_fewestMost a_this_aside a_this_seens v_this_seenMany v_this_ahead (upd v_this_st (Int32.toNatClampNeg x1) (v_this_ahead (Int32.toNatClampNeg ((15 * v_this_undoMany) + x1)))))) C 2 0 rfl rfl hi2 rfl dX9_undo_47 ?_
      refine r_iinc (v := 1) (k := 1) (lv' := [(1, .int (x1 + 1)), (0, .ref a_this)]) C dX9_undo_48 rfl (by decide) (by decide) rfl ?_
      refine r_goto C 22 dX9_undo_51 (by decide) ?_
      exact ST_lv [1, 0] rfl (hk_22 (x1 + 1) v_this_undoMany (upd v_this_st (Int32.toNatClampNeg x1) (v_this_ahead (Int32.toNatClampNeg ((15 * v_this_undoMany) + x1)))) hf)
  have hb_22 : ∀ (n : Nat) (x1 : Int32) (v_this_undoMany : Int32) (v_this_st : Nat → Int32), f_X9_undo_b22 v_this_ahead n x1 v_this_undoMany v_this_st = some res → Z (w_X9_undo cyI cyZ cyW a_this a_this_told a_this_st a_this_text v_this_letters v_this_place v_this_token v_this_value v_this_begins a_this_read v_this_clauses a_this_ahead v_this_undoMany a_this_isKept a_this_kept v_this_fewestMany v_this_fewestSets v_this_fewestSet v_this_fewestMost a_this_aside a_this_seens v_this_seenMany v_this_ahead v_this_st) 22 [(0, .ref a_this), (1, .int x1)] [] := by
    intro  n
    induction n with
    | zero => intro x1 v_this_undoMany v_this_st hf; exact nn_ hf
    | succ n ih => exact fun x1 v_this_undoMany v_this_st hf => hs_22 _ ih x1 v_this_undoMany v_this_st hf
  subst hZ
  refine r_aload_n C dX9_undo_0 rfl 0 rfl ?_
  refine r_get C in_X9_undo_X9 0 rfl rfl 11 (by decide) lk_X9_undo_1 rfl rfl dX9_undo_1 ?_
  refine r_if_ne C 10 dX9_undo_4 (by decide) hf (fun hf => ?_) (fun hf => ?_)
  · refine r_aload_n C dX9_undo_10 rfl 0 rfl ?_
    refine r_dup C dX9_undo_11 rfl ?_
    refine r_get C in_X9_undo_X9 0 rfl rfl 11 (by decide) lk_X9_undo_1 rfl rfl dX9_undo_12 ?_
    refine r_iconst C 1 dX9_undo_15 (by decide) ?_
    refine r_isub C dX9_undo_16 ?_
    refine r_put (ws' := (w_X9_undo cyI cyZ cyW a_this a_this_told a_this_st a_this_text v_this_letters v_this_place v_this_token v_this_value v_this_begins a_this_read v_this_clauses a_this_ahead (v_this_undoMany - 1) a_this_isKept a_this_kept v_this_fewestMany v_this_fewestSets v_this_fewestSet v_this_fewestMost a_this_aside a_this_seens v_this_seenMany v_this_ahead v_this_st)) C in_X9_undo_X9 tyX9 tyX9_ok nmX9 0 rfl rfl 11 (by decide) lk_X9_undo_1 rfl rfl rfl rfl (Nat.le_of_ble_eq_true rfl) rfl dX9_undo_17 ?_
    refine r_iconst C 0 dX9_undo_20 (by decide) ?_
    refine r_istore_n (lv' := [(1, .int 0), (0, .ref a_this)]) C dX9_undo_21 rfl (by decide) rfl ?_
    exact ST_lv [1, 0] rfl (hb_22 5000 0 (v_this_undoMany - 1) v_this_st hf)
  · refine r_bipush C (-4) dX9_undo_7 (by decide) ?_
    rw [← Option.some.inj hf]
    exact r_iret C hr hlk dX9_undo_9

theorem lk_X9_keep_1 : Cond.fieldLink RX9 29 "ParishCoatModel" "kept" "[I" ∈ wsX9_keep := List.mem_of_getElem? (i := 1) rfl
theorem lk_X9_keep_2 : Cond.fieldLink RX9 13 "ParishCoatModel" "st" "[I" ∈ wsX9_keep := List.mem_of_getElem? (i := 2) rfl
theorem lk_X9_keep_3 : Cond.fieldLink RX9 25 "ParishCoatModel" "isKept" "[Z" ∈ wsX9_keep := List.mem_of_getElem? (i := 3) rfl
theorem in_X9_keep_X9 : ∀ w ∈ u_ws RX9 TX9 21, w ∈ wsX9_keep := fun _ h => List.mem_cons_of_mem _ (List.mem_append_right _ h)
def f_X9_keep_s15 (v_this_st : Nat → Int32) (k_15 : Int32 → Int32 → (Nat → Int32) → (Nat → Int32) → Option (Int32 × (Nat → Int32) × (Nat → Int32))) (x1 : Int32) (x2 : Int32) (v_this_isKept : Nat → Int32) (v_this_kept : Nat → Int32) : Option (Int32 × (Nat → Int32) × (Nat → Int32)) := if 15 ≤ x2 then (gd_ x1 2 (some ((v_this_st 14), (upd v_this_isKept (Int32.toNatClampNeg x1) (vp_nar .boolean 1)), v_this_kept))) else (gd_ x2 15 (gd_ ((15 * x1) + x2) 30 (k_15 x1 (x2 + 1) v_this_isKept (upd v_this_kept (Int32.toNatClampNeg ((15 * x1) + x2)) (v_this_st (Int32.toNatClampNeg x2))))))
def f_X9_keep_b15 (v_this_st : Nat → Int32) (n : Nat) : Int32 → Int32 → (Nat → Int32) → (Nat → Int32) → Option (Int32 × (Nat → Int32) × (Nat → Int32)) := it_ (f_X9_keep_s15 v_this_st ) (fun _ _ _ _ => none) n
def f_X9_keep (v_this_isKept : Nat → Int32) (v_this_st : Nat → Int32) (v_this_kept : Nat → Int32) (x1 : Int32) : Option (Int32 × (Nat → Int32) × (Nat → Int32)) := (f_X9_in (Int32.toInt64 x1) 0 1).bind fun y1 => if y1 = 0 then (some ((-2), v_this_isKept, v_this_kept)) else (f_X9_keep_b15 v_this_st 5000 x1 0 v_this_isKept v_this_kept)
def w_X9_keep (cyI cyZ cyW : ClassId) (a_this : Nat) (a_this_told : Nat) (a_this_st : Nat) (a_this_text : Nat) (v_this_letters : Int32) (v_this_place : Int32) (v_this_token : Int32) (v_this_value : Int32) (v_this_begins : Int32) (a_this_read : Nat) (v_this_clauses : Int32) (a_this_ahead : Nat) (v_this_undoMany : Int32) (a_this_isKept : Nat) (a_this_kept : Nat) (v_this_fewestMany : Int32) (v_this_fewestSets : Int32) (v_this_fewestSet : Int32) (v_this_fewestMost : Int32) (a_this_aside : Nat) (a_this_seens : Nat) (v_this_seenMany : Int32) (v_this_isKept : Nat → Int32) (v_this_st : Nat → Int32) (v_this_kept : Nat → Int32) : va_W := [(a_this, .inr (9, [.ref a_this_told, .ref a_this_st, .ref a_this_text, .int v_this_letters, .int v_this_place, .int v_this_token, .int v_this_value, .int v_this_begins, .ref a_this_read, .int v_this_clauses, .ref a_this_ahead, .int v_this_undoMany, .ref a_this_isKept, .ref a_this_kept, .int v_this_fewestMany, .int v_this_fewestSets, .int v_this_fewestSet, .int v_this_fewestMost, .ref a_this_aside, .ref a_this_seens, .int v_this_seenMany])), (a_this_isKept, .inl (cyZ, 2, .inl v_this_isKept)), (a_this_st, .inl (cyI, 15, .inl v_this_st)), (a_this_kept, .inl (cyI, 30, .inl v_this_kept))]
set_option maxHeartbeats 4000000 in
set_option maxRecDepth 100000 in
theorem c_X9_keep (l : Launch) (D : va_G) (cyI cyZ cyW : ClassId) (a_this : Nat) (a_this_told : Nat) (a_this_st : Nat) (a_this_text : Nat) (v_this_letters : Int32) (v_this_place : Int32) (v_this_token : Int32) (v_this_value : Int32) (v_this_begins : Int32) (a_this_read : Nat) (v_this_clauses : Int32) (a_this_ahead : Nat) (v_this_undoMany : Int32) (a_this_isKept : Nat) (a_this_kept : Nat) (v_this_fewestMany : Int32) (v_this_fewestSets : Int32) (v_this_fewestSet : Int32) (v_this_fewestMost : Int32) (a_this_aside : Nat) (a_this_seens : Nat) (v_this_seenMany : Int32) (v_this_isKept : Nat → Int32) (v_this_st : Nat → Int32) (v_this_kept : Nat → Int32) (x1 : Int32) (res : Int32 × (Nat → Int32) × (Nat → Int32)) (hf : f_X9_keep v_this_isKept v_this_st v_this_kept x1 = some res) : ∀ sz, Met l yX9_keep wsX9_keep { frames := 1, cells := 0, slots := 0, locals := 25 } (PCx D (tyG cyI cyZ cyW) [.ref a_this, .int x1] (w_X9_keep cyI cyZ cyW a_this a_this_told a_this_st a_this_text v_this_letters v_this_place v_this_token v_this_value v_this_begins a_this_read v_this_clauses a_this_ahead v_this_undoMany a_this_isKept a_this_kept v_this_fewestMany v_this_fewestSets v_this_fewestSet v_this_fewestMost a_this_aside a_this_seens v_this_seenMany v_this_isKept v_this_st v_this_kept) sz) (QI D (tyG cyI cyZ cyW) (w_X9_keep cyI cyZ cyW a_this a_this_told a_this_st a_this_text v_this_letters v_this_place v_this_token v_this_value v_this_begins a_this_read v_this_clauses a_this_ahead v_this_undoMany a_this_isKept a_this_kept v_this_fewestMany v_this_fewestSets v_this_fewestSet v_this_fewestMost a_this_aside a_this_seens v_this_seenMany v_this_isKept v_this_st v_this_kept) sz res.1 (w_X9_keep cyI cyZ cyW a_this a_this_told a_this_st a_this_text v_this_letters v_this_place v_this_token v_this_value v_this_begins a_this_read v_this_clauses a_this_ahead v_this_undoMany a_this_isKept a_this_kept v_this_fewestMany v_this_fewestSets v_this_fewestSet v_this_fewestMost a_this_aside a_this_seens v_this_seenMany res.2.1 v_this_st res.2.2)) 0 0 (va_A (w_X9_keep cyI cyZ cyW a_this a_this_told a_this_st a_this_text v_this_letters v_this_place v_this_token v_this_value v_this_begins a_this_read v_this_clauses a_this_ahead v_this_undoMany a_this_isKept a_this_kept v_this_fewestMany v_this_fewestSets v_this_fewestSet v_this_fewestMost a_this_aside a_this_seens v_this_seenMany v_this_isKept v_this_st v_this_kept) sz) := by
  intro sz
  refine met_of (cc := cX9_keep) (maxL := 3) (ret := (some .int)) (lv0 := [(0, .ref a_this), (1, .int x1)]) (by decide) rfl ⟨(Nat.le_of_ble_eq_true rfl), rfl⟩ ?_
  intro p e s m below meth c C hr hlk hnm hsz
  subst hsz
  have C : CX p s m _ c 3 cX9_keep RX9 wsX9_keep D (tyG cyI cyZ cyW) _ := C
  obtain ⟨Z, hZ⟩ : ∃ Z : va_W → Nat → LV → List Value → Prop, Z = ST p l e { frames := 1, cells := 0, slots := 0, locals := 25 } s m [.ref a_this, .int x1].toArray below meth c 3 D (va_A (w_X9_keep cyI cyZ cyW a_this a_this_told a_this_st a_this_text v_this_letters v_this_place v_this_token v_this_value v_this_begins a_this_read v_this_clauses a_this_ahead v_this_undoMany a_this_isKept a_this_kept v_this_fewestMany v_this_fewestSets v_this_fewestSet v_this_fewestMost a_this_aside a_this_seens v_this_seenMany v_this_isKept v_this_st v_this_kept) s.heap.size) (MQ below (QI D (tyG cyI cyZ cyW) (w_X9_keep cyI cyZ cyW a_this a_this_told a_this_st a_this_text v_this_letters v_this_place v_this_token v_this_value v_this_begins a_this_read v_this_clauses a_this_ahead v_this_undoMany a_this_isKept a_this_kept v_this_fewestMany v_this_fewestSets v_this_fewestSet v_this_fewestMost a_this_aside a_this_seens v_this_seenMany v_this_isKept v_this_st v_this_kept) s.heap.size res.1 (w_X9_keep cyI cyZ cyW a_this a_this_told a_this_st a_this_text v_this_letters v_this_place v_this_token v_this_value v_this_begins a_this_read v_this_clauses a_this_ahead v_this_undoMany a_this_isKept a_this_kept v_this_fewestMany v_this_fewestSets v_this_fewestSet v_this_fewestMost a_this_aside a_this_seens v_this_seenMany res.2.1 v_this_st res.2.2)) [.ref a_this, .int x1].toArray s 0 0 (va_A (w_X9_keep cyI cyZ cyW a_this a_this_told a_this_st a_this_text v_this_letters v_this_place v_this_token v_this_value v_this_begins a_this_read v_this_clauses a_this_ahead v_this_undoMany a_this_isKept a_this_kept v_this_fewestMany v_this_fewestSets v_this_fewestSet v_this_fewestMost a_this_aside a_this_seens v_this_seenMany v_this_isKept v_this_st v_this_kept) s.heap.size)) 0 0 := ⟨_, rfl⟩
  have hs_15 : ∀ (k_15 : Int32 → Int32 → (Nat → Int32) → (Nat → Int32) → Option (Int32 × (Nat → Int32) × (Nat → Int32))), (∀ (x1 : Int32) (x2 : Int32) (v_this_isKept : Nat → Int32) (v_this_kept : Nat → Int32), k_15 x1 x2 v_this_isKept v_this_kept = some res → Z (w_X9_keep cyI cyZ cyW a_this a_this_told a_this_st a_this_text v_this_letters v_this_place v_this_token v_this_value v_this_begins a_this_read v_this_clauses a_this_ahead v_this_undoMany a_this_isKept a_this_kept v_this_fewestMany v_this_fewestSets v_this_fewestSet v_this_fewestMost a_this_aside a_this_seens v_this_seenMany v_this_isKept v_this_st v_this_kept) 15 [(0, .ref a_this), (1, .int x1), (2, .int x2)] []) → ∀ (x1 : Int32) (x2 : Int32) (v_this_isKept : Nat → Int32) (v_this_kept : Nat → Int32), f_X9_keep_s15 v_this_st k_15 x1 x2 v_this_isKept v_this_kept = some res → Z (w_X9_keep cyI cyZ cyW a_this a_this_told a_this_st a_this_text v_this_letters v_this_place v_this_token v_this_value v_this_begins a_this_read v_this_clauses a_this_ahead v_this_undoMany a_this_isKept a_this_kept v_this_fewestMany v_this_fewestSets v_this_fewestSet v_this_fewestMost a_this_aside a_this_seens v_this_seenMany v_this_isKept v_this_st v_this_kept) 15 [(0, .ref a_this), (1, .int x1), (2, .int x2)] [] := by
    subst hZ
    intro k_15 hk_15 x1 x2 v_this_isKept v_this_kept hf
    refine r_iload_n C dX9_keep_15 rfl 2 rfl ?_
    refine r_bipush C 15 dX9_keep_16 (by decide) ?_
    refine r_icmp_ge C 44 dX9_keep_18 (by decide) hf (fun hf => ?_) (fun hf => ?_)
    · refine r_aload_n C dX9_keep_44 rfl 0 rfl ?_
      refine r_get C in_X9_keep_X9 0 rfl rfl 12 (by decide) lk_X9_keep_3 rfl rfl dX9_keep_45 ?_
      refine r_iload_n C dX9_keep_48 rfl 1 rfl ?_
      refine r_iconst C 1 dX9_keep_49 (by decide) ?_
      obtain ⟨hi3, hf⟩ := gd_some hf
      refine r_zast (ws' := (w_X9_keep cyI cyZ cyW a_this a_this_told a_this_st a_this_text v_this_letters v_this_place v_this_token v_this_value v_this_begins a_this_read v_this_clauses a_this_ahead v_this_undoMany a_this_isKept a_this_kept v_this_fewestMany v_this_fewestSets v_this_fewestSet v_this_fewestMost a_this_aside a_this_seens v_this_seenMany (upd v_this_isKept (Int32.toNatClampNeg x1) (vp_nar .boolean 1)) v_this_st v_this_kept)) C 1 1 rfl rfl hi3 rfl dX9_keep_50 ?_
      refine r_aload_n C dX9_keep_51 rfl 0 rfl ?_
      refine r_get C in_X9_keep_X9 0 rfl rfl 1 (by decide) lk_X9_keep_2 rfl rfl dX9_keep_52 ?_
      refine r_bipush C 14 dX9_keep_55 (by decide) ?_
      refine r_iald_k C 14 2 0 rfl rfl (kk_ 14 15 (by decide) (by decide)) dX9_keep_57 ?_
      rw [← Option.some.inj hf]
      exact r_iret C hr hlk dX9_keep_58
    · refine r_aload_n C dX9_keep_21 rfl 0 rfl ?_
      refine r_get C in_X9_keep_X9 0 rfl rfl 13 (by decide) lk_X9_keep_1 rfl rfl dX9_keep_22 ?_
      refine r_bipush C 15 dX9_keep_25 (by decide) ?_
      refine r_iload_n C dX9_keep_27 rfl 1 rfl ?_
      refine r_imul C dX9_keep_28 ?_
      refine r_iload_n C dX9_keep_29 rfl 2 rfl ?_
      refine r_iadd C dX9_keep_30 ?_
      refine r_aload_n C dX9_keep_31 rfl 0 rfl ?_
      refine r_get C in_X9_keep_X9 0 rfl rfl 1 (by decide) lk_X9_keep_2 rfl rfl dX9_keep_32 ?_
      refine r_iload_n C dX9_keep_35 rfl 2 rfl ?_
      obtain ⟨hi4, hf⟩ := gd_some hf
      refine r_iald C 2 0 rfl rfl hi4 dX9_keep_36 ?_
      obtain ⟨hi5, hf⟩ := gd_some hf
      refine r_iast (ws' := (w_X9_keep cyI cyZ cyW a_this a_this_told a_this_st a_this_text v_this_letters v_this_place v_this_token v_this_value v_this_begins a_this_read v_this_clauses a_this_ahead v_this_undoMany a_this_isKept a_this_kept v_this_fewestMany v_this_fewestSets v_this_fewestSet v_this_fewestMost a_this_aside a_this_seens v_this_seenMany v_this_isKept v_this_st (upd v_this_kept (Int32.toNatClampNeg ((15 * x1) + x2)) (v_this_st (Int32.toNatClampNeg x2))))) C 3 0 rfl rfl hi5 rfl dX9_keep_37 ?_
      refine r_iinc (v := 1) (k := 2) (lv' := [(2, .int (x2 + 1)), (0, .ref a_this), (1, .int x1)]) C dX9_keep_38 rfl (by decide) (by decide) rfl ?_
      refine r_goto C 15 dX9_keep_41 (by decide) ?_
      exact ST_lv [1, 2, 0] rfl (hk_15 x1 (x2 + 1) v_this_isKept (upd v_this_kept (Int32.toNatClampNeg ((15 * x1) + x2)) (v_this_st (Int32.toNatClampNeg x2))) hf)
  have hb_15 : ∀ (n : Nat) (x1 : Int32) (x2 : Int32) (v_this_isKept : Nat → Int32) (v_this_kept : Nat → Int32), f_X9_keep_b15 v_this_st n x1 x2 v_this_isKept v_this_kept = some res → Z (w_X9_keep cyI cyZ cyW a_this a_this_told a_this_st a_this_text v_this_letters v_this_place v_this_token v_this_value v_this_begins a_this_read v_this_clauses a_this_ahead v_this_undoMany a_this_isKept a_this_kept v_this_fewestMany v_this_fewestSets v_this_fewestSet v_this_fewestMost a_this_aside a_this_seens v_this_seenMany v_this_isKept v_this_st v_this_kept) 15 [(0, .ref a_this), (1, .int x1), (2, .int x2)] [] := by
    intro  n
    induction n with
    | zero => intro x1 x2 v_this_isKept v_this_kept hf; exact nn_ hf
    | succ n ih => exact fun x1 x2 v_this_isKept v_this_kept hf => hs_15 _ ih x1 x2 v_this_isKept v_this_kept hf
  subst hZ
  refine r_iload_n C dX9_keep_0 rfl 1 rfl ?_
  refine r_i2l C dX9_keep_1 ?_
  refine r_lconst C 0 dX9_keep_2 (by decide) ?_
  refine r_lconst C 1 dX9_keep_3 (by decide) ?_
  obtain ⟨y1, hy2, hf⟩ := bd_some hf
  refine r_roS_i (As := [.long (Int32.toInt64 x1), .long 0, .long 1]) (rest := []) C (c_X9_in l D cyI cyZ cyW (Int32.toInt64 x1) 0 1 y1 hy2) gX9_keep_X9_in rfl hyS_X9_in ⟨rfl, rfl, (Nat.le_of_ble_eq_true rfl), (Nat.le_of_ble_eq_true rfl)⟩ rfl [] rfl rfl rfl (Nat.le_of_ble_eq_true rfl) ⟨Nat.zero_le _, Nat.zero_le _⟩ dX9_keep_4 ?_
  refine r_if_ne C 13 dX9_keep_7 (by decide) hf (fun hf => ?_) (fun hf => ?_)
  · refine r_iconst C 0 dX9_keep_13 (by decide) ?_
    refine r_istore_n (lv' := [(2, .int 0), (0, .ref a_this), (1, .int x1)]) C dX9_keep_14 rfl (by decide) rfl ?_
    exact ST_lv [1, 2, 0] rfl (hb_15 5000 x1 0 v_this_isKept v_this_kept hf)
  · refine r_bipush C (-2) dX9_keep_10 (by decide) ?_
    rw [← Option.some.inj hf]
    exact r_iret C hr hlk dX9_keep_12

theorem lk_X9_back_1 : Cond.fieldLink RX9 25 "ParishCoatModel" "isKept" "[Z" ∈ wsX9_back := List.mem_of_getElem? (i := 1) rfl
theorem lk_X9_back_2 : Cond.fieldLink RX9 13 "ParishCoatModel" "st" "[I" ∈ wsX9_back := List.mem_of_getElem? (i := 2) rfl
theorem lk_X9_back_3 : Cond.fieldLink RX9 29 "ParishCoatModel" "kept" "[I" ∈ wsX9_back := List.mem_of_getElem? (i := 3) rfl
theorem lk_X9_back_4 : Cond.fieldLink RX9 114 "ParishCoatModel" "undoMany" "I" ∈ wsX9_back := List.mem_of_getElem? (i := 4) rfl
theorem in_X9_back_X9 : ∀ w ∈ u_ws RX9 TX9 21, w ∈ wsX9_back := fun _ h => List.mem_cons_of_mem _ (List.mem_append_right _ h)
def f_X9_back_s27 (v_this_isKept : Nat → Int32) (v_this_kept : Nat → Int32) (k_27 : Int32 → Int32 → Int32 → (Nat → Int32) → Option (Int32 × Int32 × (Nat → Int32))) (x1 : Int32) (x2 : Int32) (v_this_undoMany : Int32) (v_this_st : Nat → Int32) : Option (Int32 × Int32 × (Nat → Int32)) := if 15 ≤ x2 then (some ((v_this_st 14), 0, v_this_st)) else (gd_ ((15 * x1) + x2) 30 (gd_ x2 15 (k_27 x1 (x2 + 1) v_this_undoMany (upd v_this_st (Int32.toNatClampNeg x2) (v_this_kept (Int32.toNatClampNeg ((15 * x1) + x2)))))))
def f_X9_back_b27 (v_this_isKept : Nat → Int32) (v_this_kept : Nat → Int32) (n : Nat) : Int32 → Int32 → Int32 → (Nat → Int32) → Option (Int32 × Int32 × (Nat → Int32)) := it_ (f_X9_back_s27 v_this_isKept v_this_kept ) (fun _ _ _ _ => none) n
def f_X9_back (v_this_undoMany : Int32) (v_this_isKept : Nat → Int32) (v_this_st : Nat → Int32) (v_this_kept : Nat → Int32) (x1 : Int32) : Option (Int32 × Int32 × (Nat → Int32)) := (f_X9_in (Int32.toInt64 x1) 0 1).bind fun y1 => if y1 = 0 then (some ((-2), v_this_undoMany, v_this_st)) else (gd_ x1 2 (if (v_this_isKept (Int32.toNatClampNeg x1)) = 0 then (some ((-4), v_this_undoMany, v_this_st)) else (f_X9_back_b27 v_this_isKept v_this_kept 5000 x1 0 v_this_undoMany v_this_st)))
def w_X9_back (cyI cyZ cyW : ClassId) (a_this : Nat) (a_this_told : Nat) (a_this_st : Nat) (a_this_text : Nat) (v_this_letters : Int32) (v_this_place : Int32) (v_this_token : Int32) (v_this_value : Int32) (v_this_begins : Int32) (a_this_read : Nat) (v_this_clauses : Int32) (a_this_ahead : Nat) (v_this_undoMany : Int32) (a_this_isKept : Nat) (a_this_kept : Nat) (v_this_fewestMany : Int32) (v_this_fewestSets : Int32) (v_this_fewestSet : Int32) (v_this_fewestMost : Int32) (a_this_aside : Nat) (a_this_seens : Nat) (v_this_seenMany : Int32) (v_this_isKept : Nat → Int32) (v_this_st : Nat → Int32) (v_this_kept : Nat → Int32) : va_W := [(a_this, .inr (9, [.ref a_this_told, .ref a_this_st, .ref a_this_text, .int v_this_letters, .int v_this_place, .int v_this_token, .int v_this_value, .int v_this_begins, .ref a_this_read, .int v_this_clauses, .ref a_this_ahead, .int v_this_undoMany, .ref a_this_isKept, .ref a_this_kept, .int v_this_fewestMany, .int v_this_fewestSets, .int v_this_fewestSet, .int v_this_fewestMost, .ref a_this_aside, .ref a_this_seens, .int v_this_seenMany])), (a_this_isKept, .inl (cyZ, 2, .inl v_this_isKept)), (a_this_st, .inl (cyI, 15, .inl v_this_st)), (a_this_kept, .inl (cyI, 30, .inl v_this_kept))]
set_option maxHeartbeats 4000000 in
set_option maxRecDepth 100000 in
theorem c_X9_back (l : Launch) (D : va_G) (cyI cyZ cyW : ClassId) (a_this : Nat) (a_this_told : Nat) (a_this_st : Nat) (a_this_text : Nat) (v_this_letters : Int32) (v_this_place : Int32) (v_this_token : Int32) (v_this_value : Int32) (v_this_begins : Int32) (a_this_read : Nat) (v_this_clauses : Int32) (a_this_ahead : Nat) (v_this_undoMany : Int32) (a_this_isKept : Nat) (a_this_kept : Nat) (v_this_fewestMany : Int32) (v_this_fewestSets : Int32) (v_this_fewestSet : Int32) (v_this_fewestMost : Int32) (a_this_aside : Nat) (a_this_seens : Nat) (v_this_seenMany : Int32) (v_this_isKept : Nat → Int32) (v_this_st : Nat → Int32) (v_this_kept : Nat → Int32) (x1 : Int32) (res : Int32 × Int32 × (Nat → Int32)) (hf : f_X9_back v_this_undoMany v_this_isKept v_this_st v_this_kept x1 = some res) : ∀ sz, Met l yX9_back wsX9_back { frames := 1, cells := 0, slots := 0, locals := 25 } (PCx D (tyG cyI cyZ cyW) [.ref a_this, .int x1] (w_X9_back cyI cyZ cyW a_this a_this_told a_this_st a_this_text v_this_letters v_this_place v_this_token v_this_value v_this_begins a_this_read v_this_clauses a_this_ahead v_this_undoMany a_this_isKept a_this_kept v_this_fewestMany v_this_fewestSets v_this_fewestSet v_this_fewestMost a_this_aside a_this_seens v_this_seenMany v_this_isKept v_this_st v_this_kept) sz) (QI D (tyG cyI cyZ cyW) (w_X9_back cyI cyZ cyW a_this a_this_told a_this_st a_this_text v_this_letters v_this_place v_this_token v_this_value v_this_begins a_this_read v_this_clauses a_this_ahead v_this_undoMany a_this_isKept a_this_kept v_this_fewestMany v_this_fewestSets v_this_fewestSet v_this_fewestMost a_this_aside a_this_seens v_this_seenMany v_this_isKept v_this_st v_this_kept) sz res.1 (w_X9_back cyI cyZ cyW a_this a_this_told a_this_st a_this_text v_this_letters v_this_place v_this_token v_this_value v_this_begins a_this_read v_this_clauses a_this_ahead res.2.1 a_this_isKept a_this_kept v_this_fewestMany v_this_fewestSets v_this_fewestSet v_this_fewestMost a_this_aside a_this_seens v_this_seenMany v_this_isKept res.2.2 v_this_kept)) 0 0 (va_A (w_X9_back cyI cyZ cyW a_this a_this_told a_this_st a_this_text v_this_letters v_this_place v_this_token v_this_value v_this_begins a_this_read v_this_clauses a_this_ahead v_this_undoMany a_this_isKept a_this_kept v_this_fewestMany v_this_fewestSets v_this_fewestSet v_this_fewestMost a_this_aside a_this_seens v_this_seenMany v_this_isKept v_this_st v_this_kept) sz) := by
  intro sz
  refine met_of (cc := cX9_back) (maxL := 3) (ret := (some .int)) (lv0 := [(0, .ref a_this), (1, .int x1)]) (by decide) rfl ⟨(Nat.le_of_ble_eq_true rfl), rfl⟩ ?_
  intro p e s m below meth c C hr hlk hnm hsz
  subst hsz
  have C : CX p s m _ c 3 cX9_back RX9 wsX9_back D (tyG cyI cyZ cyW) _ := C
  obtain ⟨Z, hZ⟩ : ∃ Z : va_W → Nat → LV → List Value → Prop, Z = ST p l e { frames := 1, cells := 0, slots := 0, locals := 25 } s m [.ref a_this, .int x1].toArray below meth c 3 D (va_A (w_X9_back cyI cyZ cyW a_this a_this_told a_this_st a_this_text v_this_letters v_this_place v_this_token v_this_value v_this_begins a_this_read v_this_clauses a_this_ahead v_this_undoMany a_this_isKept a_this_kept v_this_fewestMany v_this_fewestSets v_this_fewestSet v_this_fewestMost a_this_aside a_this_seens v_this_seenMany v_this_isKept v_this_st v_this_kept) s.heap.size) (MQ below (QI D (tyG cyI cyZ cyW) (w_X9_back cyI cyZ cyW a_this a_this_told a_this_st a_this_text v_this_letters v_this_place v_this_token v_this_value v_this_begins a_this_read v_this_clauses a_this_ahead v_this_undoMany a_this_isKept a_this_kept v_this_fewestMany v_this_fewestSets v_this_fewestSet v_this_fewestMost a_this_aside a_this_seens v_this_seenMany v_this_isKept v_this_st v_this_kept) s.heap.size res.1 (w_X9_back cyI cyZ cyW a_this a_this_told a_this_st a_this_text v_this_letters v_this_place v_this_token v_this_value v_this_begins a_this_read v_this_clauses a_this_ahead res.2.1 a_this_isKept a_this_kept v_this_fewestMany v_this_fewestSets v_this_fewestSet v_this_fewestMost a_this_aside a_this_seens v_this_seenMany v_this_isKept res.2.2 v_this_kept)) [.ref a_this, .int x1].toArray s 0 0 (va_A (w_X9_back cyI cyZ cyW a_this a_this_told a_this_st a_this_text v_this_letters v_this_place v_this_token v_this_value v_this_begins a_this_read v_this_clauses a_this_ahead v_this_undoMany a_this_isKept a_this_kept v_this_fewestMany v_this_fewestSets v_this_fewestSet v_this_fewestMost a_this_aside a_this_seens v_this_seenMany v_this_isKept v_this_st v_this_kept) s.heap.size)) 0 0 := ⟨_, rfl⟩
  have hs_27 : ∀ (k_27 : Int32 → Int32 → Int32 → (Nat → Int32) → Option (Int32 × Int32 × (Nat → Int32))), (∀ (x1 : Int32) (x2 : Int32) (v_this_undoMany : Int32) (v_this_st : Nat → Int32), k_27 x1 x2 v_this_undoMany v_this_st = some res → Z (w_X9_back cyI cyZ cyW a_this a_this_told a_this_st a_this_text v_this_letters v_this_place v_this_token v_this_value v_this_begins a_this_read v_this_clauses a_this_ahead v_this_undoMany a_this_isKept a_this_kept v_this_fewestMany v_this_fewestSets v_this_fewestSet v_this_fewestMost a_this_aside a_this_seens v_this_seenMany v_this_isKept v_this_st v_this_kept) 27 [(0, .ref a_this), (1, .int x1), (2, .int x2)] []) → ∀ (x1 : Int32) (x2 : Int32) (v_this_undoMany : Int32) (v_this_st : Nat → Int32), f_X9_back_s27 v_this_isKept v_this_kept k_27 x1 x2 v_this_undoMany v_this_st = some res → Z (w_X9_back cyI cyZ cyW a_this a_this_told a_this_st a_this_text v_this_letters v_this_place v_this_token v_this_value v_this_begins a_this_read v_this_clauses a_this_ahead v_this_undoMany a_this_isKept a_this_kept v_this_fewestMany v_this_fewestSets v_this_fewestSet v_this_fewestMost a_this_aside a_this_seens v_this_seenMany v_this_isKept v_this_st v_this_kept) 27 [(0, .ref a_this), (1, .int x1), (2, .int x2)] [] := by
    subst hZ
    intro k_27 hk_27 x1 x2 v_this_undoMany v_this_st hf
    refine r_iload_n C dX9_back_27 rfl 2 rfl ?_
    refine r_bipush C 15 dX9_back_28 (by decide) ?_
    refine r_icmp_ge C 56 dX9_back_30 (by decide) hf (fun hf => ?_) (fun hf => ?_)
    · refine r_aload_n C dX9_back_56 rfl 0 rfl ?_
      refine r_iconst C 0 dX9_back_57 (by decide) ?_
      refine r_put (ws' := (w_X9_back cyI cyZ cyW a_this a_this_told a_this_st a_this_text v_this_letters v_this_place v_this_token v_this_value v_this_begins a_this_read v_this_clauses a_this_ahead 0 a_this_isKept a_this_kept v_this_fewestMany v_this_fewestSets v_this_fewestSet v_this_fewestMost a_this_aside a_this_seens v_this_seenMany v_this_isKept v_this_st v_this_kept)) C in_X9_back_X9 tyX9 tyX9_ok nmX9 0 rfl rfl 11 (by decide) lk_X9_back_4 rfl rfl rfl rfl (Nat.le_of_ble_eq_true rfl) rfl dX9_back_58 ?_
      refine r_aload_n C dX9_back_61 rfl 0 rfl ?_
      refine r_get C in_X9_back_X9 0 rfl rfl 1 (by decide) lk_X9_back_2 rfl rfl dX9_back_62 ?_
      refine r_bipush C 14 dX9_back_65 (by decide) ?_
      refine r_iald_k C 14 2 0 rfl rfl (kk_ 14 15 (by decide) (by decide)) dX9_back_67 ?_
      rw [← Option.some.inj hf]
      exact r_iret C hr hlk dX9_back_68
    · refine r_aload_n C dX9_back_33 rfl 0 rfl ?_
      refine r_get C in_X9_back_X9 0 rfl rfl 1 (by decide) lk_X9_back_2 rfl rfl dX9_back_34 ?_
      refine r_iload_n C dX9_back_37 rfl 2 rfl ?_
      refine r_aload_n C dX9_back_38 rfl 0 rfl ?_
      refine r_get C in_X9_back_X9 0 rfl rfl 13 (by decide) lk_X9_back_3 rfl rfl dX9_back_39 ?_
      refine r_bipush C 15 dX9_back_42 (by decide) ?_
      refine r_iload_n C dX9_back_44 rfl 1 rfl ?_
      refine r_imul C dX9_back_45 ?_
      refine r_iload_n C dX9_back_46 rfl 2 rfl ?_
      refine r_iadd C dX9_back_47 ?_
      obtain ⟨hi4, hf⟩ := gd_some hf
      refine r_iald C 3 0 rfl rfl hi4 dX9_back_48 ?_
      obtain ⟨hi5, hf⟩ := gd_some hf
      refine r_iast (ws' := (w_X9_back cyI cyZ cyW a_this a_this_told a_this_st a_this_text v_this_letters v_this_place v_this_token v_this_value v_this_begins a_this_read v_this_clauses a_this_ahead v_this_undoMany a_this_isKept a_this_kept v_this_fewestMany v_this_fewestSets v_this_fewestSet v_this_fewestMost a_this_aside a_this_seens v_this_seenMany v_this_isKept (upd v_this_st (Int32.toNatClampNeg x2) (v_this_kept (Int32.toNatClampNeg ((15 * x1) + x2)))) v_this_kept)) C 2 0 rfl rfl hi5 rfl dX9_back_49 ?_
      refine r_iinc (v := 1) (k := 2) (lv' := [(2, .int (x2 + 1)), (0, .ref a_this), (1, .int x1)]) C dX9_back_50 rfl (by decide) (by decide) rfl ?_
      refine r_goto C 27 dX9_back_53 (by decide) ?_
      exact ST_lv [1, 2, 0] rfl (hk_27 x1 (x2 + 1) v_this_undoMany (upd v_this_st (Int32.toNatClampNeg x2) (v_this_kept (Int32.toNatClampNeg ((15 * x1) + x2)))) hf)
  have hb_27 : ∀ (n : Nat) (x1 : Int32) (x2 : Int32) (v_this_undoMany : Int32) (v_this_st : Nat → Int32), f_X9_back_b27 v_this_isKept v_this_kept n x1 x2 v_this_undoMany v_this_st = some res → Z (w_X9_back cyI cyZ cyW a_this a_this_told a_this_st a_this_text v_this_letters v_this_place v_this_token v_this_value v_this_begins a_this_read v_this_clauses a_this_ahead v_this_undoMany a_this_isKept a_this_kept v_this_fewestMany v_this_fewestSets v_this_fewestSet v_this_fewestMost a_this_aside a_this_seens v_this_seenMany v_this_isKept v_this_st v_this_kept) 27 [(0, .ref a_this), (1, .int x1), (2, .int x2)] [] := by
    intro  n
    induction n with
    | zero => intro x1 x2 v_this_undoMany v_this_st hf; exact nn_ hf
    | succ n ih => exact fun x1 x2 v_this_undoMany v_this_st hf => hs_27 _ ih x1 x2 v_this_undoMany v_this_st hf
  subst hZ
  refine r_iload_n C dX9_back_0 rfl 1 rfl ?_
  refine r_i2l C dX9_back_1 ?_
  refine r_lconst C 0 dX9_back_2 (by decide) ?_
  refine r_lconst C 1 dX9_back_3 (by decide) ?_
  obtain ⟨y1, hy2, hf⟩ := bd_some hf
  refine r_roS_i (As := [.long (Int32.toInt64 x1), .long 0, .long 1]) (rest := []) C (c_X9_in l D cyI cyZ cyW (Int32.toInt64 x1) 0 1 y1 hy2) gX9_back_X9_in rfl hyS_X9_in ⟨rfl, rfl, (Nat.le_of_ble_eq_true rfl), (Nat.le_of_ble_eq_true rfl)⟩ rfl [] rfl rfl rfl (Nat.le_of_ble_eq_true rfl) ⟨Nat.zero_le _, Nat.zero_le _⟩ dX9_back_4 ?_
  refine r_if_ne C 13 dX9_back_7 (by decide) hf (fun hf => ?_) (fun hf => ?_)
  · refine r_aload_n C dX9_back_13 rfl 0 rfl ?_
    refine r_get C in_X9_back_X9 0 rfl rfl 12 (by decide) lk_X9_back_1 rfl rfl dX9_back_14 ?_
    refine r_iload_n C dX9_back_17 rfl 1 rfl ?_
    obtain ⟨hi3, hf⟩ := gd_some hf
    refine r_zald C 1 1 rfl rfl hi3 dX9_back_18 ?_
    refine r_if_ne C 25 dX9_back_19 (by decide) hf (fun hf => ?_) (fun hf => ?_)
    · refine r_iconst C 0 dX9_back_25 (by decide) ?_
      refine r_istore_n (lv' := [(2, .int 0), (0, .ref a_this), (1, .int x1)]) C dX9_back_26 rfl (by decide) rfl ?_
      exact ST_lv [1, 2, 0] rfl (hb_27 5000 x1 0 v_this_undoMany v_this_st hf)
    · refine r_bipush C (-4) dX9_back_22 (by decide) ?_
      rw [← Option.some.inj hf]
      exact r_iret C hr hlk dX9_back_24
  · refine r_bipush C (-2) dX9_back_10 (by decide) ?_
    rw [← Option.some.inj hf]
    exact r_iret C hr hlk dX9_back_12

theorem lk_X9_areFamilies_1 : Cond.fieldLink RX9 7 "ParishCoatModel" "told" "[I" ∈ wsX9_areFamilies := List.mem_of_getElem? (i := 1) rfl
theorem in_X9_areFamilies_X9 : ∀ w ∈ u_ws RX9 TX9 21, w ∈ wsX9_areFamilies := fun _ h => List.mem_cons_of_mem _ (List.mem_append_right _ h)
def f_X9_areFamilies (v_this_told : Nat → Int32) (x1 : Int32) : Option (Int32) := (f_X9_in (Int32.toInt64 x1) 0 (Int32.toInt64 (((1 : Int32) <<< ((v_this_told 0) &&& 31)) - 1))).bind fun y1 => bz_ y1 (some (y1))
def w_X9_areFamilies (cyI cyZ cyW : ClassId) (a_this : Nat) (a_this_told : Nat) (a_this_st : Nat) (a_this_text : Nat) (v_this_letters : Int32) (v_this_place : Int32) (v_this_token : Int32) (v_this_value : Int32) (v_this_begins : Int32) (a_this_read : Nat) (v_this_clauses : Int32) (a_this_ahead : Nat) (v_this_undoMany : Int32) (a_this_isKept : Nat) (a_this_kept : Nat) (v_this_fewestMany : Int32) (v_this_fewestSets : Int32) (v_this_fewestSet : Int32) (v_this_fewestMost : Int32) (a_this_aside : Nat) (a_this_seens : Nat) (v_this_seenMany : Int32) (v_this_told : Nat → Int32) : va_W := [(a_this, .inr (9, [.ref a_this_told, .ref a_this_st, .ref a_this_text, .int v_this_letters, .int v_this_place, .int v_this_token, .int v_this_value, .int v_this_begins, .ref a_this_read, .int v_this_clauses, .ref a_this_ahead, .int v_this_undoMany, .ref a_this_isKept, .ref a_this_kept, .int v_this_fewestMany, .int v_this_fewestSets, .int v_this_fewestSet, .int v_this_fewestMost, .ref a_this_aside, .ref a_this_seens, .int v_this_seenMany])), (a_this_told, .inl (cyI, 37, .inl v_this_told))]
set_option maxHeartbeats 4000000 in
set_option maxRecDepth 100000 in
theorem c_X9_areFamilies (l : Launch) (D : va_G) (cyI cyZ cyW : ClassId) (a_this : Nat) (a_this_told : Nat) (a_this_st : Nat) (a_this_text : Nat) (v_this_letters : Int32) (v_this_place : Int32) (v_this_token : Int32) (v_this_value : Int32) (v_this_begins : Int32) (a_this_read : Nat) (v_this_clauses : Int32) (a_this_ahead : Nat) (v_this_undoMany : Int32) (a_this_isKept : Nat) (a_this_kept : Nat) (v_this_fewestMany : Int32) (v_this_fewestSets : Int32) (v_this_fewestSet : Int32) (v_this_fewestMost : Int32) (a_this_aside : Nat) (a_this_seens : Nat) (v_this_seenMany : Int32) (v_this_told : Nat → Int32) (x1 : Int32) (res : Int32) (hf : f_X9_areFamilies v_this_told x1 = some res) : ∀ sz, Met l yX9_areFamilies wsX9_areFamilies { frames := 1, cells := 0, slots := 0, locals := 25 } (PCx D (tyG cyI cyZ cyW) [.ref a_this, .int x1] (w_X9_areFamilies cyI cyZ cyW a_this a_this_told a_this_st a_this_text v_this_letters v_this_place v_this_token v_this_value v_this_begins a_this_read v_this_clauses a_this_ahead v_this_undoMany a_this_isKept a_this_kept v_this_fewestMany v_this_fewestSets v_this_fewestSet v_this_fewestMost a_this_aside a_this_seens v_this_seenMany v_this_told) sz) (QI D (tyG cyI cyZ cyW) (w_X9_areFamilies cyI cyZ cyW a_this a_this_told a_this_st a_this_text v_this_letters v_this_place v_this_token v_this_value v_this_begins a_this_read v_this_clauses a_this_ahead v_this_undoMany a_this_isKept a_this_kept v_this_fewestMany v_this_fewestSets v_this_fewestSet v_this_fewestMost a_this_aside a_this_seens v_this_seenMany v_this_told) sz res (w_X9_areFamilies cyI cyZ cyW a_this a_this_told a_this_st a_this_text v_this_letters v_this_place v_this_token v_this_value v_this_begins a_this_read v_this_clauses a_this_ahead v_this_undoMany a_this_isKept a_this_kept v_this_fewestMany v_this_fewestSets v_this_fewestSet v_this_fewestMost a_this_aside a_this_seens v_this_seenMany v_this_told)) 0 0 (va_A (w_X9_areFamilies cyI cyZ cyW a_this a_this_told a_this_st a_this_text v_this_letters v_this_place v_this_token v_this_value v_this_begins a_this_read v_this_clauses a_this_ahead v_this_undoMany a_this_isKept a_this_kept v_this_fewestMany v_this_fewestSets v_this_fewestSet v_this_fewestMost a_this_aside a_this_seens v_this_seenMany v_this_told) sz) := by
  intro sz
  refine met_of (cc := cX9_areFamilies) (maxL := 2) (ret := (some .boolean)) (lv0 := [(0, .ref a_this), (1, .int x1)]) (by decide) rfl ⟨(Nat.le_of_ble_eq_true rfl), rfl⟩ ?_
  intro p e s m below meth c C hr hlk hnm hsz
  subst hsz
  have C : CX p s m _ c 2 cX9_areFamilies RX9 wsX9_areFamilies D (tyG cyI cyZ cyW) _ := C
  refine r_iload_n C dX9_areFamilies_0 rfl 1 rfl ?_
  refine r_i2l C dX9_areFamilies_1 ?_
  refine r_lconst C 0 dX9_areFamilies_2 (by decide) ?_
  refine r_iconst C 1 dX9_areFamilies_3 (by decide) ?_
  refine r_aload_n C dX9_areFamilies_4 rfl 0 rfl ?_
  refine r_get C in_X9_areFamilies_X9 0 rfl rfl 0 (by decide) lk_X9_areFamilies_1 rfl rfl dX9_areFamilies_5 ?_
  refine r_iconst C 0 dX9_areFamilies_8 (by decide) ?_
  refine r_iald_k C 0 1 0 rfl rfl (kk_ 0 37 (by decide) (by decide)) dX9_areFamilies_9 ?_
  refine r_ishl C dX9_areFamilies_10 ?_
  refine r_iconst C 1 dX9_areFamilies_11 (by decide) ?_
  refine r_isub C dX9_areFamilies_12 ?_
  refine r_i2l C dX9_areFamilies_13 ?_
  obtain ⟨y1, hy2, hf⟩ := bd_some hf
  refine r_roS_i (As := [.long (Int32.toInt64 x1), .long 0, .long (Int32.toInt64 (((1 : Int32) <<< ((v_this_told 0) &&& 31)) - 1))]) (rest := []) C (c_X9_in l D cyI cyZ cyW (Int32.toInt64 x1) 0 (Int32.toInt64 (((1 : Int32) <<< ((v_this_told 0) &&& 31)) - 1)) y1 hy2) gX9_areFamilies_X9_in rfl hyS_X9_in ⟨rfl, rfl, (Nat.le_of_ble_eq_true rfl), (Nat.le_of_ble_eq_true rfl)⟩ rfl [] rfl rfl rfl (Nat.le_of_ble_eq_true rfl) ⟨Nat.zero_le _, Nat.zero_le _⟩ dX9_areFamilies_14 ?_
  obtain ⟨hz3, hf⟩ := bz_some hf
  rw [← Option.some.inj hf]
  exact r_zret (r := y1) C hr hlk hz3 dX9_areFamilies_17

theorem hyV_X9_areFamilies : yX9_areFamilies.cls = RX9 ∧ yX9_areFamilies.cls ≠ "java/lang/invoke/MethodHandle" ∧ yX9_areFamilies.cls ≠ "java/lang/invoke/VarHandle" ∧ (parseMethodDescriptor yX9_areFamilies.desc).map (fun d => d.parameters.length) = some 1 := by decide +kernel
theorem hyS_X9_areFamilies : yX9_areFamilies.cls ≠ "java/lang/invoke/MethodHandle" ∧ yX9_areFamilies.cls ≠ "java/lang/invoke/VarHandle" ∧ (parseMethodDescriptor yX9_areFamilies.desc).map (fun d => d.parameters.length) = some 1 := by decide +kernel
def f_X9_warm (v_this_told : Nat → Int32) (x1 : Int32) : Option (Int32) := (f_X9_areFamilies v_this_told x1).bind fun y1 => if y1 = 0 then (some ((-2))) else ((f_X9_warmBy v_this_told x1).bind fun y3 => some (y3))
def w_X9_warm (cyI cyZ cyW : ClassId) (a_this : Nat) (a_this_told : Nat) (a_this_st : Nat) (a_this_text : Nat) (v_this_letters : Int32) (v_this_place : Int32) (v_this_token : Int32) (v_this_value : Int32) (v_this_begins : Int32) (a_this_read : Nat) (v_this_clauses : Int32) (a_this_ahead : Nat) (v_this_undoMany : Int32) (a_this_isKept : Nat) (a_this_kept : Nat) (v_this_fewestMany : Int32) (v_this_fewestSets : Int32) (v_this_fewestSet : Int32) (v_this_fewestMost : Int32) (a_this_aside : Nat) (a_this_seens : Nat) (v_this_seenMany : Int32) (v_this_told : Nat → Int32) : va_W := [(a_this, .inr (9, [.ref a_this_told, .ref a_this_st, .ref a_this_text, .int v_this_letters, .int v_this_place, .int v_this_token, .int v_this_value, .int v_this_begins, .ref a_this_read, .int v_this_clauses, .ref a_this_ahead, .int v_this_undoMany, .ref a_this_isKept, .ref a_this_kept, .int v_this_fewestMany, .int v_this_fewestSets, .int v_this_fewestSet, .int v_this_fewestMost, .ref a_this_aside, .ref a_this_seens, .int v_this_seenMany])), (a_this_told, .inl (cyI, 37, .inl v_this_told))]
set_option maxHeartbeats 4000000 in
set_option maxRecDepth 100000 in
theorem c_X9_warm (l : Launch) (D : va_G) (cyI cyZ cyW : ClassId) (a_this : Nat) (a_this_told : Nat) (a_this_st : Nat) (a_this_text : Nat) (v_this_letters : Int32) (v_this_place : Int32) (v_this_token : Int32) (v_this_value : Int32) (v_this_begins : Int32) (a_this_read : Nat) (v_this_clauses : Int32) (a_this_ahead : Nat) (v_this_undoMany : Int32) (a_this_isKept : Nat) (a_this_kept : Nat) (v_this_fewestMany : Int32) (v_this_fewestSets : Int32) (v_this_fewestSet : Int32) (v_this_fewestMost : Int32) (a_this_aside : Nat) (a_this_seens : Nat) (v_this_seenMany : Int32) (v_this_told : Nat → Int32) (x1 : Int32) (res : Int32) (hf : f_X9_warm v_this_told x1 = some res) : ∀ sz, Met l yX9_warm wsX9_warm { frames := 2, cells := 0, slots := 0, locals := 46 } (PCx D (tyG cyI cyZ cyW) [.ref a_this, .int x1] (w_X9_warm cyI cyZ cyW a_this a_this_told a_this_st a_this_text v_this_letters v_this_place v_this_token v_this_value v_this_begins a_this_read v_this_clauses a_this_ahead v_this_undoMany a_this_isKept a_this_kept v_this_fewestMany v_this_fewestSets v_this_fewestSet v_this_fewestMost a_this_aside a_this_seens v_this_seenMany v_this_told) sz) (QI D (tyG cyI cyZ cyW) (w_X9_warm cyI cyZ cyW a_this a_this_told a_this_st a_this_text v_this_letters v_this_place v_this_token v_this_value v_this_begins a_this_read v_this_clauses a_this_ahead v_this_undoMany a_this_isKept a_this_kept v_this_fewestMany v_this_fewestSets v_this_fewestSet v_this_fewestMost a_this_aside a_this_seens v_this_seenMany v_this_told) sz res (w_X9_warm cyI cyZ cyW a_this a_this_told a_this_st a_this_text v_this_letters v_this_place v_this_token v_this_value v_this_begins a_this_read v_this_clauses a_this_ahead v_this_undoMany a_this_isKept a_this_kept v_this_fewestMany v_this_fewestSets v_this_fewestSet v_this_fewestMost a_this_aside a_this_seens v_this_seenMany v_this_told)) 0 0 (va_A (w_X9_warm cyI cyZ cyW a_this a_this_told a_this_st a_this_text v_this_letters v_this_place v_this_token v_this_value v_this_begins a_this_read v_this_clauses a_this_ahead v_this_undoMany a_this_isKept a_this_kept v_this_fewestMany v_this_fewestSets v_this_fewestSet v_this_fewestMost a_this_aside a_this_seens v_this_seenMany v_this_told) sz) := by
  intro sz
  refine met_of (cc := cX9_warm) (maxL := 2) (ret := (some .int)) (lv0 := [(0, .ref a_this), (1, .int x1)]) (by decide) rfl ⟨(Nat.le_of_ble_eq_true rfl), rfl⟩ ?_
  intro p e s m below meth c C hr hlk hnm hsz
  subst hsz
  have C : CX p s m _ c 2 cX9_warm RX9 wsX9_warm D (tyG cyI cyZ cyW) _ := C
  refine r_aload_n C dX9_warm_0 rfl 0 rfl ?_
  refine r_iload_n C dX9_warm_1 rfl 1 rfl ?_
  obtain ⟨y1, hy2, hf⟩ := bd_some hf
  refine r_roV_i (As := [.int x1]) (rest := []) C (c_X9_areFamilies l D cyI cyZ cyW a_this a_this_told a_this_st a_this_text v_this_letters v_this_place v_this_token v_this_value v_this_begins a_this_read v_this_clauses a_this_ahead v_this_undoMany a_this_isKept a_this_kept v_this_fewestMany v_this_fewestSets v_this_fewestSet v_this_fewestMost a_this_aside a_this_seens v_this_seenMany v_this_told x1 y1 hy2) gX9_warm_X9_areFamilies rfl hyV_X9_areFamilies ⟨rfl, rfl, (Nat.le_of_ble_eq_true rfl), (Nat.le_of_ble_eq_true rfl)⟩ rfl 0 rfl rfl [0, 1] rfl rfl rfl (Nat.le_of_ble_eq_true rfl) ⟨Nat.zero_le _, Nat.zero_le _⟩ dX9_warm_2 ?_
  refine r_if_eq C 16 dX9_warm_5 (by decide) hf (fun hf => ?_) (fun hf => ?_)
  · refine r_bipush C (-2) dX9_warm_16 (by decide) ?_
    rw [← Option.some.inj hf]
    exact r_iret C hr hlk dX9_warm_18
  · refine r_aload_n C dX9_warm_8 rfl 0 rfl ?_
    refine r_iload_n C dX9_warm_9 rfl 1 rfl ?_
    obtain ⟨y3, hy4, hf⟩ := bd_some hf
    refine r_roV_i (As := [.int x1]) (rest := []) C (c_X9_warmBy l D cyI cyZ cyW a_this a_this_told a_this_st a_this_text v_this_letters v_this_place v_this_token v_this_value v_this_begins a_this_read v_this_clauses a_this_ahead v_this_undoMany a_this_isKept a_this_kept v_this_fewestMany v_this_fewestSets v_this_fewestSet v_this_fewestMost a_this_aside a_this_seens v_this_seenMany v_this_told x1 y3 hy4) gX9_warm_X9_warmBy rfl hyV_X9_warmBy ⟨rfl, rfl, (Nat.le_of_ble_eq_true rfl), (Nat.le_of_ble_eq_true rfl)⟩ rfl 0 rfl rfl [0, 1] rfl rfl rfl (Nat.le_of_ble_eq_true rfl) ⟨Nat.zero_le _, Nat.zero_le _⟩ dX9_warm_10 ?_
    refine r_goto C 18 dX9_warm_13 (by decide) ?_
    rw [← Option.some.inj hf]
    exact r_iret C hr hlk dX9_warm_18

def f_X9_carried (v_this_told : Nat → Int32) (v_this_st : Nat → Int32) (x1 : Int32) : Option (Int32) := (f_X9_isFamily v_this_told x1).bind fun y1 => if y1 = 0 then (some ((-2))) else ((f_X9_isFrozen v_this_st x1).bind fun y3 => if y3 = 0 then ((f_X9_isCarried v_this_told v_this_st x1).bind fun y5 => if y5 = 0 then (some (0)) else (some (1))) else (some ((-4))))
def w_X9_carried (cyI cyZ cyW : ClassId) (a_this : Nat) (a_this_told : Nat) (a_this_st : Nat) (a_this_text : Nat) (v_this_letters : Int32) (v_this_place : Int32) (v_this_token : Int32) (v_this_value : Int32) (v_this_begins : Int32) (a_this_read : Nat) (v_this_clauses : Int32) (a_this_ahead : Nat) (v_this_undoMany : Int32) (a_this_isKept : Nat) (a_this_kept : Nat) (v_this_fewestMany : Int32) (v_this_fewestSets : Int32) (v_this_fewestSet : Int32) (v_this_fewestMost : Int32) (a_this_aside : Nat) (a_this_seens : Nat) (v_this_seenMany : Int32) (v_this_told : Nat → Int32) (v_this_st : Nat → Int32) : va_W := [(a_this, .inr (9, [.ref a_this_told, .ref a_this_st, .ref a_this_text, .int v_this_letters, .int v_this_place, .int v_this_token, .int v_this_value, .int v_this_begins, .ref a_this_read, .int v_this_clauses, .ref a_this_ahead, .int v_this_undoMany, .ref a_this_isKept, .ref a_this_kept, .int v_this_fewestMany, .int v_this_fewestSets, .int v_this_fewestSet, .int v_this_fewestMost, .ref a_this_aside, .ref a_this_seens, .int v_this_seenMany])), (a_this_told, .inl (cyI, 37, .inl v_this_told)), (a_this_st, .inl (cyI, 15, .inl v_this_st))]
set_option maxHeartbeats 4000000 in
set_option maxRecDepth 100000 in
theorem c_X9_carried (l : Launch) (D : va_G) (cyI cyZ cyW : ClassId) (a_this : Nat) (a_this_told : Nat) (a_this_st : Nat) (a_this_text : Nat) (v_this_letters : Int32) (v_this_place : Int32) (v_this_token : Int32) (v_this_value : Int32) (v_this_begins : Int32) (a_this_read : Nat) (v_this_clauses : Int32) (a_this_ahead : Nat) (v_this_undoMany : Int32) (a_this_isKept : Nat) (a_this_kept : Nat) (v_this_fewestMany : Int32) (v_this_fewestSets : Int32) (v_this_fewestSet : Int32) (v_this_fewestMost : Int32) (a_this_aside : Nat) (a_this_seens : Nat) (v_this_seenMany : Int32) (v_this_told : Nat → Int32) (v_this_st : Nat → Int32) (x1 : Int32) (res : Int32) (hf : f_X9_carried v_this_told v_this_st x1 = some res) : ∀ sz, Met l yX9_carried wsX9_carried { frames := 5, cells := 0, slots := 0, locals := 105 } (PCx D (tyG cyI cyZ cyW) [.ref a_this, .int x1] (w_X9_carried cyI cyZ cyW a_this a_this_told a_this_st a_this_text v_this_letters v_this_place v_this_token v_this_value v_this_begins a_this_read v_this_clauses a_this_ahead v_this_undoMany a_this_isKept a_this_kept v_this_fewestMany v_this_fewestSets v_this_fewestSet v_this_fewestMost a_this_aside a_this_seens v_this_seenMany v_this_told v_this_st) sz) (QI D (tyG cyI cyZ cyW) (w_X9_carried cyI cyZ cyW a_this a_this_told a_this_st a_this_text v_this_letters v_this_place v_this_token v_this_value v_this_begins a_this_read v_this_clauses a_this_ahead v_this_undoMany a_this_isKept a_this_kept v_this_fewestMany v_this_fewestSets v_this_fewestSet v_this_fewestMost a_this_aside a_this_seens v_this_seenMany v_this_told v_this_st) sz res (w_X9_carried cyI cyZ cyW a_this a_this_told a_this_st a_this_text v_this_letters v_this_place v_this_token v_this_value v_this_begins a_this_read v_this_clauses a_this_ahead v_this_undoMany a_this_isKept a_this_kept v_this_fewestMany v_this_fewestSets v_this_fewestSet v_this_fewestMost a_this_aside a_this_seens v_this_seenMany v_this_told v_this_st)) 0 0 (va_A (w_X9_carried cyI cyZ cyW a_this a_this_told a_this_st a_this_text v_this_letters v_this_place v_this_token v_this_value v_this_begins a_this_read v_this_clauses a_this_ahead v_this_undoMany a_this_isKept a_this_kept v_this_fewestMany v_this_fewestSets v_this_fewestSet v_this_fewestMost a_this_aside a_this_seens v_this_seenMany v_this_told v_this_st) sz) := by
  intro sz
  refine met_of (cc := cX9_carried) (maxL := 2) (ret := (some .int)) (lv0 := [(0, .ref a_this), (1, .int x1)]) (by decide) rfl ⟨(Nat.le_of_ble_eq_true rfl), rfl⟩ ?_
  intro p e s m below meth c C hr hlk hnm hsz
  subst hsz
  have C : CX p s m _ c 2 cX9_carried RX9 wsX9_carried D (tyG cyI cyZ cyW) _ := C
  refine r_aload_n C dX9_carried_0 rfl 0 rfl ?_
  refine r_iload_n C dX9_carried_1 rfl 1 rfl ?_
  obtain ⟨y1, hy2, hf⟩ := bd_some hf
  refine r_roV_i (As := [.int x1]) (rest := []) C (c_X9_isFamily l D cyI cyZ cyW a_this a_this_told a_this_st a_this_text v_this_letters v_this_place v_this_token v_this_value v_this_begins a_this_read v_this_clauses a_this_ahead v_this_undoMany a_this_isKept a_this_kept v_this_fewestMany v_this_fewestSets v_this_fewestSet v_this_fewestMost a_this_aside a_this_seens v_this_seenMany v_this_told x1 y1 hy2) gX9_carried_X9_isFamily rfl hyV_X9_isFamily ⟨rfl, rfl, (Nat.le_of_ble_eq_true rfl), (Nat.le_of_ble_eq_true rfl)⟩ rfl 0 rfl rfl [0, 1] rfl rfl rfl (Nat.le_of_ble_eq_true rfl) ⟨Nat.zero_le _, Nat.zero_le _⟩ dX9_carried_2 ?_
  refine r_if_ne C 11 dX9_carried_5 (by decide) hf (fun hf => ?_) (fun hf => ?_)
  · refine r_aload_n C dX9_carried_11 rfl 0 rfl ?_
    refine r_iload_n C dX9_carried_12 rfl 1 rfl ?_
    obtain ⟨y3, hy4, hf⟩ := bd_some hf
    refine r_roV_i (As := [.int x1]) (rest := []) C (c_X9_isFrozen l D cyI cyZ cyW a_this a_this_told a_this_st a_this_text v_this_letters v_this_place v_this_token v_this_value v_this_begins a_this_read v_this_clauses a_this_ahead v_this_undoMany a_this_isKept a_this_kept v_this_fewestMany v_this_fewestSets v_this_fewestSet v_this_fewestMost a_this_aside a_this_seens v_this_seenMany v_this_st x1 y3 hy4) gX9_carried_X9_isFrozen rfl hyV_X9_isFrozen ⟨rfl, rfl, (Nat.le_of_ble_eq_true rfl), (Nat.le_of_ble_eq_true rfl)⟩ rfl 0 rfl rfl [0, 2] rfl rfl rfl (Nat.le_of_ble_eq_true rfl) ⟨Nat.zero_le _, Nat.zero_le _⟩ dX9_carried_13 ?_
    refine r_if_eq C 24 dX9_carried_16 (by decide) hf (fun hf => ?_) (fun hf => ?_)
    · refine r_aload_n C dX9_carried_24 rfl 0 rfl ?_
      refine r_iload_n C dX9_carried_25 rfl 1 rfl ?_
      obtain ⟨y5, hy6, hf⟩ := bd_some hf
      refine r_roV_i (As := [.int x1]) (rest := []) C (c_X9_isCarried l D cyI cyZ cyW a_this a_this_told a_this_st a_this_text v_this_letters v_this_place v_this_token v_this_value v_this_begins a_this_read v_this_clauses a_this_ahead v_this_undoMany a_this_isKept a_this_kept v_this_fewestMany v_this_fewestSets v_this_fewestSet v_this_fewestMost a_this_aside a_this_seens v_this_seenMany v_this_told v_this_st x1 y5 hy6) gX9_carried_X9_isCarried rfl hyV_X9_isCarried ⟨rfl, rfl, (Nat.le_of_ble_eq_true rfl), (Nat.le_of_ble_eq_true rfl)⟩ rfl 0 rfl rfl [0, 1, 2] rfl rfl rfl (Nat.le_of_ble_eq_true rfl) ⟨Nat.zero_le _, Nat.zero_le _⟩ dX9_carried_26 ?_
      refine r_if_eq C 36 dX9_carried_29 (by decide) hf (fun hf => ?_) (fun hf => ?_)
      · refine r_iconst C 0 dX9_carried_36 (by decide) ?_
        rw [← Option.some.inj hf]
        exact r_iret C hr hlk dX9_carried_37
      · refine r_iconst C 1 dX9_carried_32 (by decide) ?_
        refine r_goto C 37 dX9_carried_33 (by decide) ?_
        rw [← Option.some.inj hf]
        exact r_iret C hr hlk dX9_carried_37
    · refine r_bipush C (-4) dX9_carried_19 (by decide) ?_
      refine r_goto C 37 dX9_carried_21 (by decide) ?_
      rw [← Option.some.inj hf]
      exact r_iret C hr hlk dX9_carried_37
  · refine r_bipush C (-2) dX9_carried_8 (by decide) ?_
    rw [← Option.some.inj hf]
    exact r_iret C hr hlk dX9_carried_10
