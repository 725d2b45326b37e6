theorem lk_X9_isFew_1 : Cond.fieldLink RX9 172 "ParishCoatModel" "fewestMany" "I" ∈ wsX9_isFew := List.mem_of_getElem? (i := 1) rfl
theorem in_X9_isFew_X9 : ∀ w ∈ u_ws RX9 TX9 21, w ∈ wsX9_isFew := fun _ h => List.mem_cons_of_mem _ (List.mem_append_right _ h)
theorem hyV_X9_ones : yX9_ones.cls = RX9 ∧ yX9_ones.cls ≠ "java/lang/invoke/MethodHandle" ∧ yX9_ones.cls ≠ "java/lang/invoke/VarHandle" ∧ (parseMethodDescriptor yX9_ones.desc).map (fun d => d.parameters.length) = some 1 := by decide +kernel
theorem hyS_X9_ones : yX9_ones.cls ≠ "java/lang/invoke/MethodHandle" ∧ yX9_ones.cls ≠ "java/lang/invoke/VarHandle" ∧ (parseMethodDescriptor yX9_ones.desc).map (fun d => d.parameters.length) = some 1 := by decide +kernel
def f_X9_isFew (v_this_fewestMany : Int32) (v_this_told : Nat → Int32) (v_this_st : Nat → Int32) (x1 : Int32) (x2 : Int32) (x3 : Int32) : Option (Int32) := (f_X9_has x1 x2).bind fun y1 => if y1 = 0 then (some (0)) else (if (x1 &&& (x3 ^^^ (-1))) = 0 then ((f_X9_ones x1).bind fun y3 => if y3 = v_this_fewestMany then ((f_X9_warmBy v_this_told x1).bind fun y5 => (f_X9_coldNow v_this_told v_this_st).bind fun y7 => if y5 < y7 then (some (0)) else (some (1))) else (some (0))) else (some (0)))
def w_X9_isFew (cyI cyZ cyW : ClassId) (a_this : Nat) (a_this_told : Nat) (a_this_st : Nat) (a_this_text : Nat) (v_this_letters : Int32) (v_this_place : Int32) (v_this_token : Int32) (v_this_value : Int32) (v_this_begins : Int32) (a_this_read : Nat) (v_this_clauses : Int32) (a_this_ahead : Nat) (v_this_undoMany : Int32) (a_this_isKept : Nat) (a_this_kept : Nat) (v_this_fewestMany : Int32) (v_this_fewestSets : Int32) (v_this_fewestSet : Int32) (v_this_fewestMost : Int32) (a_this_aside : Nat) (a_this_seens : Nat) (v_this_seenMany : Int32) (v_this_told : Nat → Int32) (v_this_st : Nat → Int32) : va_W := [(a_this, .inr (9, [.ref a_this_told, .ref a_this_st, .ref a_this_text, .int v_this_letters, .int v_this_place, .int v_this_token, .int v_this_value, .int v_this_begins, .ref a_this_read, .int v_this_clauses, .ref a_this_ahead, .int v_this_undoMany, .ref a_this_isKept, .ref a_this_kept, .int v_this_fewestMany, .int v_this_fewestSets, .int v_this_fewestSet, .int v_this_fewestMost, .ref a_this_aside, .ref a_this_seens, .int v_this_seenMany])), (a_this_told, .inl (cyI, 37, .inl v_this_told)), (a_this_st, .inl (cyI, 15, .inl v_this_st))]
set_option maxHeartbeats 4000000 in
set_option maxRecDepth 100000 in
theorem c_X9_isFew (l : Launch) (D : va_G) (cyI cyZ cyW : ClassId) (a_this : Nat) (a_this_told : Nat) (a_this_st : Nat) (a_this_text : Nat) (v_this_letters : Int32) (v_this_place : Int32) (v_this_token : Int32) (v_this_value : Int32) (v_this_begins : Int32) (a_this_read : Nat) (v_this_clauses : Int32) (a_this_ahead : Nat) (v_this_undoMany : Int32) (a_this_isKept : Nat) (a_this_kept : Nat) (v_this_fewestMany : Int32) (v_this_fewestSets : Int32) (v_this_fewestSet : Int32) (v_this_fewestMost : Int32) (a_this_aside : Nat) (a_this_seens : Nat) (v_this_seenMany : Int32) (v_this_told : Nat → Int32) (v_this_st : Nat → Int32) (x1 : Int32) (x2 : Int32) (x3 : Int32) (res : Int32) (hf : f_X9_isFew v_this_fewestMany v_this_told v_this_st x1 x2 x3 = some res) : ∀ sz, Met l yX9_isFew wsX9_isFew { frames := 2, cells := 0, slots := 0, locals := 45 } (PCx D (tyG cyI cyZ cyW) [.ref a_this, .int x1, .int x2, .int x3] (w_X9_isFew cyI cyZ cyW a_this a_this_told a_this_st a_this_text v_this_letters v_this_place v_this_token v_this_value v_this_begins a_this_read v_this_clauses a_this_ahead v_this_undoMany a_this_isKept a_this_kept v_this_fewestMany v_this_fewestSets v_this_fewestSet v_this_fewestMost a_this_aside a_this_seens v_this_seenMany v_this_told v_this_st) sz) (QI D (tyG cyI cyZ cyW) (w_X9_isFew cyI cyZ cyW a_this a_this_told a_this_st a_this_text v_this_letters v_this_place v_this_token v_this_value v_this_begins a_this_read v_this_clauses a_this_ahead v_this_undoMany a_this_isKept a_this_kept v_this_fewestMany v_this_fewestSets v_this_fewestSet v_this_fewestMost a_this_aside a_this_seens v_this_seenMany v_this_told v_this_st) sz res (w_X9_isFew cyI cyZ cyW a_this a_this_told a_this_st a_this_text v_this_letters v_this_place v_this_token v_this_value v_this_begins a_this_read v_this_clauses a_this_ahead v_this_undoMany a_this_isKept a_this_kept v_this_fewestMany v_this_fewestSets v_this_fewestSet v_this_fewestMost a_this_aside a_this_seens v_this_seenMany v_this_told v_this_st)) 0 0 (va_A (w_X9_isFew cyI cyZ cyW a_this a_this_told a_this_st a_this_text v_this_letters v_this_place v_this_token v_this_value v_this_begins a_this_read v_this_clauses a_this_ahead v_this_undoMany a_this_isKept a_this_kept v_this_fewestMany v_this_fewestSets v_this_fewestSet v_this_fewestMost a_this_aside a_this_seens v_this_seenMany v_this_told v_this_st) sz) := by
  intro sz
  refine met_of (cc := cX9_isFew) (maxL := 4) (ret := (some .boolean)) (lv0 := [(0, .ref a_this), (1, .int x1), (2, .int x2), (3, .int x3)]) (by decide) rfl ⟨(Nat.le_of_ble_eq_true rfl), rfl⟩ ?_
  intro p e s m below meth c C hr hlk hnm hsz
  subst hsz
  have C : CX p s m _ c 4 cX9_isFew RX9 wsX9_isFew D (tyG cyI cyZ cyW) _ := C
  refine r_iload_n C dX9_isFew_0 rfl 1 rfl ?_
  refine r_iload_n C dX9_isFew_1 rfl 2 rfl ?_
  obtain ⟨y1, hy2, hf⟩ := bd_some hf
  refine r_roS_i (As := [.int x1, .int x2]) (rest := []) C (c_X9_has l D cyI cyZ cyW x1 x2 y1 hy2) gX9_isFew_X9_has rfl hyS_X9_has ⟨rfl, rfl, (Nat.le_of_ble_eq_true rfl), (Nat.le_of_ble_eq_true rfl)⟩ rfl [] rfl rfl rfl (Nat.le_of_ble_eq_true rfl) ⟨Nat.zero_le _, Nat.zero_le _⟩ dX9_isFew_2 ?_
  refine r_if_eq C 43 dX9_isFew_5 (by decide) hf (fun hf => ?_) (fun hf => ?_)
  · refine r_iconst C 0 dX9_isFew_43 (by decide) ?_
    rw [← Option.some.inj hf]
    exact r_zret (r := 0) C hr hlk rfl dX9_isFew_44
  · refine r_iload_n C dX9_isFew_8 rfl 1 rfl ?_
    refine r_iload_n C dX9_isFew_9 rfl 3 rfl ?_
    refine r_iconst C (-1) dX9_isFew_10 (by decide) ?_
    refine r_ixor C dX9_isFew_11 ?_
    refine r_iand C dX9_isFew_12 ?_
    refine r_if_ne C 43 dX9_isFew_13 (by decide) hf (fun hf => ?_) (fun hf => ?_)
    · refine r_iconst C 0 dX9_isFew_43 (by decide) ?_
      rw [← Option.some.inj hf]
      exact r_zret (r := 0) C hr hlk rfl dX9_isFew_44
    · refine r_iload_n C dX9_isFew_16 rfl 1 rfl ?_
      obtain ⟨y3, hy4, hf⟩ := bd_some hf
      refine r_roS_i (As := [.int x1]) (rest := []) C (c_X9_ones l D cyI cyZ cyW x1 y3 hy4) gX9_isFew_X9_ones rfl hyS_X9_ones ⟨rfl, rfl, (Nat.le_of_ble_eq_true rfl), (Nat.le_of_ble_eq_true rfl)⟩ rfl [] rfl rfl rfl (Nat.le_of_ble_eq_true rfl) ⟨Nat.zero_le _, Nat.zero_le _⟩ dX9_isFew_17 ?_
      refine r_aload_n C dX9_isFew_20 rfl 0 rfl ?_
      refine r_get C in_X9_isFew_X9 0 rfl rfl 14 (by decide) lk_X9_isFew_1 rfl rfl dX9_isFew_21 ?_
      refine r_icmp_ne C 43 dX9_isFew_24 (by decide) hf (fun hf => ?_) (fun hf => ?_)
      · refine r_iconst C 0 dX9_isFew_43 (by decide) ?_
        rw [← Option.some.inj hf]
        exact r_zret (r := 0) C hr hlk rfl dX9_isFew_44
      · refine r_aload_n C dX9_isFew_27 rfl 0 rfl ?_
        refine r_iload_n C dX9_isFew_28 rfl 1 rfl ?_
        obtain ⟨y5, hy6, hf⟩ := bd_some hf
        refine r_roV_i (As := [.int x1]) (rest := []) C (c_X9_warmBy l D cyI cyZ cyW a_this a_this_told a_this_st a_this_text v_this_letters v_this_place v_this_token v_this_value v_this_begins a_this_read v_this_clauses a_this_ahead v_this_undoMany a_this_isKept a_this_kept v_this_fewestMany v_this_fewestSets v_this_fewestSet v_this_fewestMost a_this_aside a_this_seens v_this_seenMany v_this_told x1 y5 hy6) gX9_isFew_X9_warmBy rfl hyV_X9_warmBy ⟨rfl, rfl, (Nat.le_of_ble_eq_true rfl), (Nat.le_of_ble_eq_true rfl)⟩ rfl 0 rfl rfl [0, 1] rfl rfl rfl (Nat.le_of_ble_eq_true rfl) ⟨Nat.zero_le _, Nat.zero_le _⟩ dX9_isFew_29 ?_
        refine r_aload_n C dX9_isFew_32 rfl 0 rfl ?_
        obtain ⟨y7, hy8, hf⟩ := bd_some hf
        refine r_roV_i (As := []) (rest := [.int y5]) C (c_X9_coldNow l D cyI cyZ cyW a_this a_this_told a_this_st a_this_text v_this_letters v_this_place v_this_token v_this_value v_this_begins a_this_read v_this_clauses a_this_ahead v_this_undoMany a_this_isKept a_this_kept v_this_fewestMany v_this_fewestSets v_this_fewestSet v_this_fewestMost a_this_aside a_this_seens v_this_seenMany v_this_told v_this_st y7 hy8) gX9_isFew_X9_coldNow rfl hyV_X9_coldNow ⟨rfl, rfl, (Nat.le_of_ble_eq_true rfl), (Nat.le_of_ble_eq_true rfl)⟩ rfl 0 rfl rfl [0, 1, 2] rfl rfl rfl (Nat.le_of_ble_eq_true rfl) ⟨Nat.zero_le _, Nat.zero_le _⟩ dX9_isFew_33 ?_
        refine r_icmp_lt C 43 dX9_isFew_36 (by decide) hf (fun hf => ?_) (fun hf => ?_)
        · refine r_iconst C 0 dX9_isFew_43 (by decide) ?_
          rw [← Option.some.inj hf]
          exact r_zret (r := 0) C hr hlk rfl dX9_isFew_44
        · refine r_iconst C 1 dX9_isFew_39 (by decide) ?_
          refine r_goto C 44 dX9_isFew_40 (by decide) ?_
          rw [← Option.some.inj hf]
          exact r_zret (r := 1) C hr hlk rfl dX9_isFew_44

theorem lk_X9_findFewest_1 : Cond.fieldLink RX9 172 "ParishCoatModel" "fewestMany" "I" ∈ wsX9_findFewest := List.mem_of_getElem? (i := 1) rfl
theorem lk_X9_findFewest_2 : Cond.fieldLink RX9 178 "ParishCoatModel" "fewestSets" "I" ∈ wsX9_findFewest := List.mem_of_getElem? (i := 2) rfl
theorem lk_X9_findFewest_3 : Cond.fieldLink RX9 181 "ParishCoatModel" "fewestMost" "I" ∈ wsX9_findFewest := List.mem_of_getElem? (i := 3) rfl
theorem lk_X9_findFewest_4 : Cond.fieldLink RX9 188 "ParishCoatModel" "fewestSet" "I" ∈ wsX9_findFewest := List.mem_of_getElem? (i := 4) rfl
theorem lk_X9_findFewest_5 : Cond.fieldLink RX9 7 "ParishCoatModel" "told" "[I" ∈ wsX9_findFewest := List.mem_of_getElem? (i := 5) rfl
theorem in_X9_findFewest_X9 : ∀ w ∈ u_ws RX9 TX9 21, w ∈ wsX9_findFewest := fun _ h => List.mem_cons_of_mem _ (List.mem_append_right _ h)
theorem hyV_X9_isFew : yX9_isFew.cls = RX9 ∧ yX9_isFew.cls ≠ "java/lang/invoke/MethodHandle" ∧ yX9_isFew.cls ≠ "java/lang/invoke/VarHandle" ∧ (parseMethodDescriptor yX9_isFew.desc).map (fun d => d.parameters.length) = some 3 := by decide +kernel
theorem hyS_X9_isFew : yX9_isFew.cls ≠ "java/lang/invoke/MethodHandle" ∧ yX9_isFew.cls ≠ "java/lang/invoke/VarHandle" ∧ (parseMethodDescriptor yX9_isFew.desc).map (fun d => d.parameters.length) = some 3 := by decide +kernel
def f_X9_findFewest_b245 (v_this_told : Nat → Int32) (v_this_st : Nat → Int32) (k_146 : Int32 → Int32 → Int32 → Int32 → Int32 → Int32 → Int32 → Int32 → Option (Int32 × Int32 × Int32 × Int32 × Int32)) (x1 : Int32) (x2 : Int32) (x3 : Int32) (x4 : Int32) (s0 : Int32) (s1 : Int32) (v_this_fewestMany : Int32) (v_this_fewestSets : Int32) (v_this_fewestSet : Int32) (v_this_fewestMost : Int32) : Option (Int32 × Int32 × Int32 × Int32 × Int32) := k_146 x1 x2 x3 (x4 + 1) v_this_fewestMany v_this_fewestSets v_this_fewestSet (s1 ||| s0)
def f_X9_findFewest_b226 (v_this_told : Nat → Int32) (v_this_st : Nat → Int32) (k_146 : Int32 → Int32 → Int32 → Int32 → Int32 → Int32 → Int32 → Int32 → Option (Int32 × Int32 × Int32 × Int32 × Int32)) (x1 : Int32) (x2 : Int32) (x3 : Int32) (x4 : Int32) (x5 : Int32) (v_this_fewestMany : Int32) (v_this_fewestSets : Int32) (v_this_fewestSet : Int32) (v_this_fewestMost : Int32) : Option (Int32 × Int32 × Int32 × Int32 × Int32) := if x5 = x3 then (f_X9_findFewest_b245 v_this_told v_this_st k_146 x1 x2 x3 x4 ((1 : Int32) <<< (x4 &&& 31)) v_this_fewestMost v_this_fewestMany v_this_fewestSets v_this_fewestSet v_this_fewestMost) else (f_X9_findFewest_b245 v_this_told v_this_st k_146 x1 x2 x3 x4 0 v_this_fewestMost v_this_fewestMany v_this_fewestSets v_this_fewestSet v_this_fewestMost)
def f_X9_findFewest_b212 (v_this_told : Nat → Int32) (v_this_st : Nat → Int32) (k_146 : Int32 → Int32 → Int32 → Int32 → Int32 → Int32 → Int32 → Int32 → Option (Int32 × Int32 × Int32 × Int32 × Int32)) (x1 : Int32) (x2 : Int32) (x3 : Int32) (x4 : Int32) (x5 : Int32) (v_this_fewestMany : Int32) (v_this_fewestSets : Int32) (v_this_fewestSet : Int32) (v_this_fewestMost : Int32) : Option (Int32 × Int32 × Int32 × Int32 × Int32) := if x5 ≤ x3 then (f_X9_findFewest_b226 v_this_told v_this_st k_146 x1 x2 x3 x4 x5 v_this_fewestMany v_this_fewestSets v_this_fewestSet v_this_fewestMost) else (f_X9_findFewest_b226 v_this_told v_this_st k_146 x1 x2 x5 x4 x5 v_this_fewestMany v_this_fewestSets v_this_fewestSet 0)
def f_X9_findFewest_b203 (v_this_told : Nat → Int32) (v_this_st : Nat → Int32) (k_146 : Int32 → Int32 → Int32 → Int32 → Int32 → Int32 → Int32 → Int32 → Option (Int32 × Int32 × Int32 × Int32 × Int32)) (k_163 : Int32 → Int32 → Int32 → Int32 → Int32 → Int32 → Int32 → Int32 → Int32 → Int32 → Option (Int32 × Int32 × Int32 × Int32 × Int32)) (x1 : Int32) (x2 : Int32) (x3 : Int32) (x4 : Int32) (x6 : Int32) (s0 : Int32) (s1 : Int32) (v_this_fewestMany : Int32) (v_this_fewestSets : Int32) (v_this_fewestSet : Int32) (v_this_fewestMost : Int32) : Option (Int32 × Int32 × Int32 × Int32 × Int32) := k_163 x1 x2 x3 x4 (s1 + s0) (x6 + 1) v_this_fewestMany v_this_fewestSets v_this_fewestSet v_this_fewestMost
def f_X9_findFewest_b202 (v_this_told : Nat → Int32) (v_this_st : Nat → Int32) (k_146 : Int32 → Int32 → Int32 → Int32 → Int32 → Int32 → Int32 → Int32 → Option (Int32 × Int32 × Int32 × Int32 × Int32)) (k_163 : Int32 → Int32 → Int32 → Int32 → Int32 → Int32 → Int32 → Int32 → Int32 → Int32 → Option (Int32 × Int32 × Int32 × Int32 × Int32)) (x1 : Int32) (x2 : Int32) (x3 : Int32) (x4 : Int32) (x6 : Int32) (s0 : Int32) (v_this_fewestMany : Int32) (v_this_fewestSets : Int32) (v_this_fewestSet : Int32) (v_this_fewestMost : Int32) : Option (Int32 × Int32 × Int32 × Int32 × Int32) := f_X9_findFewest_b203 v_this_told v_this_st k_146 k_163 x1 x2 x3 x4 x6 0 s0 v_this_fewestMany v_this_fewestSets v_this_fewestSet v_this_fewestMost
def f_X9_findFewest_s163 (v_this_told : Nat → Int32) (v_this_st : Nat → Int32) (k_146 : Int32 → Int32 → Int32 → Int32 → Int32 → Int32 → Int32 → Int32 → Option (Int32 × Int32 × Int32 × Int32 × Int32)) (k_163 : Int32 → Int32 → Int32 → Int32 → Int32 → Int32 → Int32 → Int32 → Int32 → Int32 → Option (Int32 × Int32 × Int32 × Int32 × Int32)) (x1 : Int32) (x2 : Int32) (x3 : Int32) (x4 : Int32) (x5 : Int32) (x6 : Int32) (v_this_fewestMany : Int32) (v_this_fewestSets : Int32) (v_this_fewestSet : Int32) (v_this_fewestMost : Int32) : Option (Int32 × Int32 × Int32 × Int32 × Int32) := if x2 < x6 then (f_X9_findFewest_b212 v_this_told v_this_st k_146 x1 x2 x3 x4 x5 v_this_fewestMany v_this_fewestSets v_this_fewestSet v_this_fewestMost) else (if x4 = x1 then (f_X9_findFewest_b212 v_this_told v_this_st k_146 x1 x2 x3 x4 x5 v_this_fewestMany v_this_fewestSets v_this_fewestSet v_this_fewestMost) else ((f_X9_has x6 x4).bind fun y15 => if y15 = 0 then (f_X9_findFewest_b202 v_this_told v_this_st k_146 k_163 x1 x2 x3 x4 x6 x5 v_this_fewestMany v_this_fewestSets v_this_fewestSet v_this_fewestMost) else ((f_X9_isFew v_this_fewestMany v_this_told v_this_st x6 x1 x2).bind fun y17 => if y17 = 0 then (f_X9_findFewest_b202 v_this_told v_this_st k_146 k_163 x1 x2 x3 x4 x6 x5 v_this_fewestMany v_this_fewestSets v_this_fewestSet v_this_fewestMost) else (f_X9_findFewest_b203 v_this_told v_this_st k_146 k_163 x1 x2 x3 x4 x6 1 x5 v_this_fewestMany v_this_fewestSets v_this_fewestSet v_this_fewestMost))))
def f_X9_findFewest_b163 (v_this_told : Nat → Int32) (v_this_st : Nat → Int32) (k_146 : Int32 → Int32 → Int32 → Int32 → Int32 → Int32 → Int32 → Int32 → Option (Int32 × Int32 × Int32 × Int32 × Int32)) (n : Nat) : Int32 → Int32 → Int32 → Int32 → Int32 → Int32 → Int32 → Int32 → Int32 → Int32 → Option (Int32 × Int32 × Int32 × Int32 × Int32) := it_ (f_X9_findFewest_s163 v_this_told v_this_st k_146) (fun _ _ _ _ _ _ _ _ _ _ => none) n
def f_X9_findFewest_s146 (v_this_told : Nat → Int32) (v_this_st : Nat → Int32) (k_146 : Int32 → Int32 → Int32 → Int32 → Int32 → Int32 → Int32 → Int32 → Option (Int32 × Int32 × Int32 × Int32 × Int32)) (x1 : Int32) (x2 : Int32) (x3 : Int32) (x4 : Int32) (v_this_fewestMany : Int32) (v_this_fewestSets : Int32) (v_this_fewestSet : Int32) (v_this_fewestMost : Int32) : Option (Int32 × Int32 × Int32 × Int32 × Int32) := if (v_this_told 0) ≤ x4 then (if v_this_fewestSets ≤ 0 then (some (0, v_this_fewestMany, v_this_fewestSets, v_this_fewestSet, v_this_fewestMost)) else (some (1, v_this_fewestMany, v_this_fewestSets, v_this_fewestSet, v_this_fewestMost))) else (f_X9_findFewest_b163 v_this_told v_this_st k_146 5000 x1 x2 x3 x4 0 0 v_this_fewestMany v_this_fewestSets v_this_fewestSet v_this_fewestMost)
def f_X9_findFewest_b146 (v_this_told : Nat → Int32) (v_this_st : Nat → Int32) (n : Nat) : Int32 → Int32 → Int32 → Int32 → Int32 → Int32 → Int32 → Int32 → Option (Int32 × Int32 × Int32 × Int32 × Int32) := it_ (f_X9_findFewest_s146 v_this_told v_this_st ) (fun _ _ _ _ _ _ _ _ => none) n
def f_X9_findFewest_b137 (v_this_told : Nat → Int32) (v_this_st : Nat → Int32) (k_105 : Int32 → Int32 → Int32 → Int32 → Int32 → Int32 → Int32 → Int32 → Option (Int32 × Int32 × Int32 × Int32 × Int32)) (x1 : Int32) (x2 : Int32) (x3 : Int32) (x4 : Int32) (v_this_fewestMany : Int32) (v_this_fewestSets : Int32) (v_this_fewestSet : Int32) (v_this_fewestMost : Int32) : Option (Int32 × Int32 × Int32 × Int32 × Int32) := k_105 x1 x2 x3 (x4 + (-1)) v_this_fewestMany v_this_fewestSets v_this_fewestSet v_this_fewestMost
def f_X9_findFewest_s105 (v_this_told : Nat → Int32) (v_this_st : Nat → Int32) (k_105 : Int32 → Int32 → Int32 → Int32 → Int32 → Int32 → Int32 → Int32 → Option (Int32 × Int32 × Int32 × Int32 × Int32)) (x1 : Int32) (x2 : Int32) (x3 : Int32) (x4 : Int32) (v_this_fewestMany : Int32) (v_this_fewestSets : Int32) (v_this_fewestSet : Int32) (v_this_fewestMost : Int32) : Option (Int32 × Int32 × Int32 × Int32 × Int32) := if x4 < 0 then (f_X9_findFewest_b146 v_this_told v_this_st 5000 x1 x2 x3 0 v_this_fewestMany v_this_fewestSets v_this_fewestSet v_this_fewestMost) else ((f_X9_isFew v_this_fewestMany v_this_told v_this_st x4 x1 x2).bind fun y13 => if y13 = 0 then (f_X9_findFewest_b137 v_this_told v_this_st k_105 x1 x2 x3 x4 v_this_fewestMany v_this_fewestSets v_this_fewestSet v_this_fewestMost) else (f_X9_findFewest_b137 v_this_told v_this_st k_105 x1 x2 x3 x4 v_this_fewestMany (v_this_fewestSets + 1) x4 v_this_fewestMost))
def f_X9_findFewest_b105 (v_this_told : Nat → Int32) (v_this_st : Nat → Int32) (n : Nat) : Int32 → Int32 → Int32 → Int32 → Int32 → Int32 → Int32 → Int32 → Option (Int32 × Int32 × Int32 × Int32 × Int32) := it_ (f_X9_findFewest_s105 v_this_told v_this_st ) (fun _ _ _ _ _ _ _ _ => none) n
def f_X9_findFewest_b81 (v_this_told : Nat → Int32) (v_this_st : Nat → Int32) (k_13 : Int32 → Int32 → Int32 → Int32 → Int32 → Int32 → Int32 → Option (Int32 × Int32 × Int32 × Int32 × Int32)) (x1 : Int32) (x2 : Int32) (x3 : Int32) (s0 : Int32) (v_this_fewestMany : Int32) (v_this_fewestSets : Int32) (v_this_fewestSet : Int32) (v_this_fewestMost : Int32) : Option (Int32 × Int32 × Int32 × Int32 × Int32) := k_13 x1 x2 (x3 + 1) s0 v_this_fewestSets v_this_fewestSet v_this_fewestMost
def f_X9_findFewest_b77 (v_this_told : Nat → Int32) (v_this_st : Nat → Int32) (k_13 : Int32 → Int32 → Int32 → Int32 → Int32 → Int32 → Int32 → Option (Int32 × Int32 × Int32 × Int32 × Int32)) (x1 : Int32) (x2 : Int32) (x3 : Int32) (v_this_fewestMany : Int32) (v_this_fewestSets : Int32) (v_this_fewestSet : Int32) (v_this_fewestMost : Int32) : Option (Int32 × Int32 × Int32 × Int32 × Int32) := f_X9_findFewest_b81 v_this_told v_this_st k_13 x1 x2 x3 v_this_fewestMany v_this_fewestMany v_this_fewestSets v_this_fewestSet v_this_fewestMost
def f_X9_findFewest_b51 (v_this_told : Nat → Int32) (v_this_st : Nat → Int32) (k_13 : Int32 → Int32 → Int32 → Int32 → Int32 → Int32 → Int32 → Option (Int32 × Int32 × Int32 × Int32 × Int32)) (x1 : Int32) (x2 : Int32) (x3 : Int32) (s0 : Int32) (v_this_fewestMany : Int32) (v_this_fewestSets : Int32) (v_this_fewestSet : Int32) (v_this_fewestMost : Int32) : Option (Int32 × Int32 × Int32 × Int32 × Int32) := if s0 = 0 then (f_X9_findFewest_b77 v_this_told v_this_st k_13 x1 x2 x3 v_this_fewestMany v_this_fewestSets v_this_fewestSet v_this_fewestMost) else ((f_X9_ones x3).bind fun y9 => if v_this_fewestMany ≤ y9 then (f_X9_findFewest_b77 v_this_told v_this_st k_13 x1 x2 x3 v_this_fewestMany v_this_fewestSets v_this_fewestSet v_this_fewestMost) else ((f_X9_ones x3).bind fun y11 => f_X9_findFewest_b81 v_this_told v_this_st k_13 x1 x2 x3 y11 v_this_fewestMany v_this_fewestSets v_this_fewestSet v_this_fewestMost))
def f_X9_findFewest_b50 (v_this_told : Nat → Int32) (v_this_st : Nat → Int32) (k_13 : Int32 → Int32 → Int32 → Int32 → Int32 → Int32 → Int32 → Option (Int32 × Int32 × Int32 × Int32 × Int32)) (x1 : Int32) (x2 : Int32) (x3 : Int32) (v_this_fewestMany : Int32) (v_this_fewestSets : Int32) (v_this_fewestSet : Int32) (v_this_fewestMost : Int32) : Option (Int32 × Int32 × Int32 × Int32 × Int32) := f_X9_findFewest_b51 v_this_told v_this_st k_13 x1 x2 x3 0 v_this_fewestMany v_this_fewestSets v_this_fewestSet v_this_fewestMost
def f_X9_findFewest_s13 (v_this_told : Nat → Int32) (v_this_st : Nat → Int32) (k_13 : Int32 → Int32 → Int32 → Int32 → Int32 → Int32 → Int32 → Option (Int32 × Int32 × Int32 × Int32 × Int32)) (x1 : Int32) (x2 : Int32) (x3 : Int32) (v_this_fewestMany : Int32) (v_this_fewestSets : Int32) (v_this_fewestSet : Int32) (v_this_fewestMost : Int32) : Option (Int32 × Int32 × Int32 × Int32 × Int32) := if x2 < x3 then (f_X9_findFewest_b105 v_this_told v_this_st 5000 x1 x2 1 x2 v_this_fewestMany 0 v_this_fewestSet 0) else ((f_X9_has x3 x1).bind fun y3 => if y3 = 0 then (f_X9_findFewest_b50 v_this_told v_this_st k_13 x1 x2 x3 v_this_fewestMany v_this_fewestSets v_this_fewestSet v_this_fewestMost) else (if (x3 &&& (x2 ^^^ (-1))) = 0 then ((f_X9_warmBy v_this_told x3).bind fun y5 => (f_X9_coldNow v_this_told v_this_st).bind fun y7 => if y5 < y7 then (f_X9_findFewest_b50 v_this_told v_this_st k_13 x1 x2 x3 v_this_fewestMany v_this_fewestSets v_this_fewestSet v_this_fewestMost) else (f_X9_findFewest_b51 v_this_told v_this_st k_13 x1 x2 x3 1 v_this_fewestMany v_this_fewestSets v_this_fewestSet v_this_fewestMost)) else (f_X9_findFewest_b50 v_this_told v_this_st k_13 x1 x2 x3 v_this_fewestMany v_this_fewestSets v_this_fewestSet v_this_fewestMost)))
def f_X9_findFewest_b13 (v_this_told : Nat → Int32) (v_this_st : Nat → Int32) (n : Nat) : Int32 → Int32 → Int32 → Int32 → Int32 → Int32 → Int32 → Option (Int32 × Int32 × Int32 × Int32 × Int32) := it_ (f_X9_findFewest_s13 v_this_told v_this_st ) (fun _ _ _ _ _ _ _ => none) n
def f_X9_findFewest (v_this_fewestMany : Int32) (v_this_fewestSets : Int32) (v_this_fewestSet : Int32) (v_this_fewestMost : Int32) (v_this_told : Nat → Int32) (v_this_st : Nat → Int32) (x1 : Int32) : Option (Int32 × Int32 × Int32 × Int32 × Int32) := (f_X9_alive v_this_told v_this_st).bind fun y1 => f_X9_findFewest_b13 v_this_told v_this_st 5000 x1 y1 0 8 v_this_fewestSets v_this_fewestSet v_this_fewestMost
def w_X9_findFewest (cyI cyZ cyW : ClassId) (a_this : Nat) (a_this_told : Nat) (a_this_st : Nat) (a_this_text : Nat) (v_this_letters : Int32) (v_this_place : Int32) (v_this_token : Int32) (v_this_value : Int32) (v_this_begins : Int32) (a_this_read : Nat) (v_this_clauses : Int32) (a_this_ahead : Nat) (v_this_undoMany : Int32) (a_this_isKept : Nat) (a_this_kept : Nat) (v_this_fewestMany : Int32) (v_this_fewestSets : Int32) (v_this_fewestSet : Int32) (v_this_fewestMost : Int32) (a_this_aside : Nat) (a_this_seens : Nat) (v_this_seenMany : Int32) (v_this_told : Nat → Int32) (v_this_st : Nat → Int32) : va_W := [(a_this, .inr (9, [.ref a_this_told, .ref a_this_st, .ref a_this_text, .int v_this_letters, .int v_this_place, .int v_this_token, .int v_this_value, .int v_this_begins, .ref a_this_read, .int v_this_clauses, .ref a_this_ahead, .int v_this_undoMany, .ref a_this_isKept, .ref a_this_kept, .int v_this_fewestMany, .int v_this_fewestSets, .int v_this_fewestSet, .int v_this_fewestMost, .ref a_this_aside, .ref a_this_seens, .int v_this_seenMany])), (a_this_told, .inl (cyI, 37, .inl v_this_told)), (a_this_st, .inl (cyI, 15, .inl v_this_st))]
set_option maxHeartbeats 4000000 in
set_option maxRecDepth 100000 in
theorem c_X9_findFewest (l : Launch) (D : va_G) (cyI cyZ cyW : ClassId) (a_this : Nat) (a_this_told : Nat) (a_this_st : Nat) (a_this_text : Nat) (v_this_letters : Int32) (v_this_place : Int32) (v_this_token : Int32) (v_this_value : Int32) (v_this_begins : Int32) (a_this_read : Nat) (v_this_clauses : Int32) (a_this_ahead : Nat) (v_this_undoMany : Int32) (a_this_isKept : Nat) (a_this_kept : Nat) (v_this_fewestMany : Int32) (v_this_fewestSets : Int32) (v_this_fewestSet : Int32) (v_this_fewestMost : Int32) (a_this_aside : Nat) (a_this_seens : Nat) (v_this_seenMany : Int32) (v_this_told : Nat → Int32) (v_this_st : Nat → Int32) (x1 : Int32) (res : Int32 × Int32 × Int32 × Int32 × Int32) (hf : f_X9_findFewest v_this_fewestMany v_this_fewestSets v_this_fewestSet v_this_fewestMost v_this_told v_this_st x1 = some res) : ∀ sz, Met l yX9_findFewest wsX9_findFewest { frames := 3, cells := 0, slots := 0, locals := 68 } (PCx D (tyG cyI cyZ cyW) [.ref a_this, .int x1] (w_X9_findFewest cyI cyZ cyW a_this a_this_told a_this_st a_this_text v_this_letters v_this_place v_this_token v_this_value v_this_begins a_this_read v_this_clauses a_this_ahead v_this_undoMany a_this_isKept a_this_kept v_this_fewestMany v_this_fewestSets v_this_fewestSet v_this_fewestMost a_this_aside a_this_seens v_this_seenMany v_this_told v_this_st) sz) (QI D (tyG cyI cyZ cyW) (w_X9_findFewest cyI cyZ cyW a_this a_this_told a_this_st a_this_text v_this_letters v_this_place v_this_token v_this_value v_this_begins a_this_read v_this_clauses a_this_ahead v_this_undoMany a_this_isKept a_this_kept v_this_fewestMany v_this_fewestSets v_this_fewestSet v_this_fewestMost a_this_aside a_this_seens v_this_seenMany v_this_told v_this_st) sz res.1 (w_X9_findFewest cyI cyZ cyW a_this a_this_told a_this_st a_this_text v_this_letters v_this_place v_this_token v_this_value v_this_begins a_this_read v_this_clauses a_this_ahead v_this_undoMany a_this_isKept a_this_kept res.2.1 res.2.2.1 res.2.2.2.1 res.2.2.2.2 a_this_aside a_this_seens v_this_seenMany v_this_told v_this_st)) 0 0 (va_A (w_X9_findFewest cyI cyZ cyW a_this a_this_told a_this_st a_this_text v_this_letters v_this_place v_this_token v_this_value v_this_begins a_this_read v_this_clauses a_this_ahead v_this_undoMany a_this_isKept a_this_kept v_this_fewestMany v_this_fewestSets v_this_fewestSet v_this_fewestMost a_this_aside a_this_seens v_this_seenMany v_this_told v_this_st) sz) := by
  intro sz
  refine met_of (cc := cX9_findFewest) (maxL := 7) (ret := (some .boolean)) (lv0 := [(0, .ref a_this), (1, .int x1)]) (by decide) rfl ⟨(Nat.le_of_ble_eq_true rfl), rfl⟩ ?_
  intro p e s m below meth c C hr hlk hnm hsz
  subst hsz
  have C : CX p s m _ c 7 cX9_findFewest RX9 wsX9_findFewest D (tyG cyI cyZ cyW) _ := C
  obtain ⟨Z, hZ⟩ : ∃ Z : va_W → Nat → LV → List Value → Prop, Z = ST p l e { frames := 3, cells := 0, slots := 0, locals := 68 } s m [.ref a_this, .int x1].toArray below meth c 7 D (va_A (w_X9_findFewest cyI cyZ cyW a_this a_this_told a_this_st a_this_text v_this_letters v_this_place v_this_token v_this_value v_this_begins a_this_read v_this_clauses a_this_ahead v_this_undoMany a_this_isKept a_this_kept v_this_fewestMany v_this_fewestSets v_this_fewestSet v_this_fewestMost a_this_aside a_this_seens v_this_seenMany v_this_told v_this_st) s.heap.size) (MQ below (QI D (tyG cyI cyZ cyW) (w_X9_findFewest cyI cyZ cyW a_this a_this_told a_this_st a_this_text v_this_letters v_this_place v_this_token v_this_value v_this_begins a_this_read v_this_clauses a_this_ahead v_this_undoMany a_this_isKept a_this_kept v_this_fewestMany v_this_fewestSets v_this_fewestSet v_this_fewestMost a_this_aside a_this_seens v_this_seenMany v_this_told v_this_st) s.heap.size res.1 (w_X9_findFewest cyI cyZ cyW a_this a_this_told a_this_st a_this_text v_this_letters v_this_place v_this_token v_this_value v_this_begins a_this_read v_this_clauses a_this_ahead v_this_undoMany a_this_isKept a_this_kept res.2.1 res.2.2.1 res.2.2.2.1 res.2.2.2.2 a_this_aside a_this_seens v_this_seenMany v_this_told v_this_st)) [.ref a_this, .int x1].toArray s 0 0 (va_A (w_X9_findFewest cyI cyZ cyW a_this a_this_told a_this_st a_this_text v_this_letters v_this_place v_this_token v_this_value v_this_begins a_this_read v_this_clauses a_this_ahead v_this_undoMany a_this_isKept a_this_kept v_this_fewestMany v_this_fewestSets v_this_fewestSet v_this_fewestMost a_this_aside a_this_seens v_this_seenMany v_this_told v_this_st) s.heap.size)) 0 0 := ⟨_, rfl⟩
  have hb_245 : ∀ (k_146 : Int32 → Int32 → Int32 → Int32 → Int32 → Int32 → Int32 → Int32 → Option (Int32 × Int32 × Int32 × Int32 × Int32)), (∀ (x1 : Int32) (x2 : Int32) (x3 : Int32) (x4 : Int32) (v_this_fewestMany : Int32) (v_this_fewestSets : Int32) (v_this_fewestSet : Int32) (v_this_fewestMost : Int32), k_146 x1 x2 x3 x4 v_this_fewestMany v_this_fewestSets v_this_fewestSet v_this_fewestMost = some res → Z (w_X9_findFewest cyI cyZ cyW a_this a_this_told a_this_st a_this_text v_this_letters v_this_place v_this_token v_this_value v_this_begins a_this_read v_this_clauses a_this_ahead v_this_undoMany a_this_isKept a_this_kept v_this_fewestMany v_this_fewestSets v_this_fewestSet v_this_fewestMost a_this_aside a_this_seens v_this_seenMany v_this_told v_this_st) 146 [(0, .ref a_this), (1, .int x1), (2, .int x2), (3, .int x3), (4, .int x4)] []) → ∀ (x1 : Int32) (x2 : Int32) (x3 : Int32) (x4 : Int32) (s0 : Int32) (s1 : Int32) (v_this_fewestMany : Int32) (v_this_fewestSets : Int32) (v_this_fewestSet : Int32) (v_this_fewestMost : Int32), f_X9_findFewest_b245 v_this_told v_this_st k_146 x1 x2 x3 x4 s0 s1 v_this_fewestMany v_this_fewestSets v_this_fewestSet v_this_fewestMost = some res → Z (w_X9_findFewest cyI cyZ cyW a_this a_this_told a_this_st a_this_text v_this_letters v_this_place v_this_token v_this_value v_this_begins a_this_read v_this_clauses a_this_ahead v_this_undoMany a_this_isKept a_this_kept v_this_fewestMany v_this_fewestSets v_this_fewestSet v_this_fewestMost a_this_aside a_this_seens v_this_seenMany v_this_told v_this_st) 245 [(0, .ref a_this), (1, .int x1), (2, .int x2), (3, .int x3), (4, .int x4)] [.int s0, .int s1, .ref a_this] := by
    subst hZ
    intro k_146 hk_146 x1 x2 x3 x4 s0 s1 v_this_fewestMany v_this_fewestSets v_this_fewestSet v_this_fewestMost hf
    refine r_ior C dX9_findFewest_245 ?_
    refine r_put (ws' := (w_X9_findFewest cyI cyZ cyW a_this a_this_told a_this_st a_this_text v_this_letters v_this_place v_this_token v_this_value v_this_begins a_this_read v_this_clauses a_this_ahead v_this_undoMany a_this_isKept a_this_kept v_this_fewestMany v_this_fewestSets v_this_fewestSet (s1 ||| s0) a_this_aside a_this_seens v_this_seenMany v_this_told v_this_st)) C in_X9_findFewest_X9 tyX9 tyX9_ok nmX9 0 rfl rfl 17 (by decide) lk_X9_findFewest_3 rfl rfl rfl rfl (Nat.le_of_ble_eq_true rfl) rfl dX9_findFewest_246 ?_
    refine r_iinc (v := 1) (k := 4) (lv' := [(4, .int (x4 + 1)), (0, .ref a_this), (1, .int x1), (2, .int x2), (3, .int x3)]) C dX9_findFewest_249 rfl (by decide) (by decide) rfl ?_
    refine r_goto C 146 dX9_findFewest_252 (by decide) ?_
    exact ST_lv [1, 2, 3, 4, 0] rfl (hk_146 x1 x2 x3 (x4 + 1) v_this_fewestMany v_this_fewestSets v_this_fewestSet (s1 ||| s0) hf)
  have hb_226 : ∀ (k_146 : Int32 → Int32 → Int32 → Int32 → Int32 → Int32 → Int32 → Int32 → Option (Int32 × Int32 × Int32 × Int32 × Int32)), (∀ (x1 : Int32) (x2 : Int32) (x3 : Int32) (x4 : Int32) (v_this_fewestMany : Int32) (v_this_fewestSets : Int32) (v_this_fewestSet : Int32) (v_this_fewestMost : Int32), k_146 x1 x2 x3 x4 v_this_fewestMany v_this_fewestSets v_this_fewestSet v_this_fewestMost = some res → Z (w_X9_findFewest cyI cyZ cyW a_this a_this_told a_this_st a_this_text v_this_letters v_this_place v_this_token v_this_value v_this_begins a_this_read v_this_clauses a_this_ahead v_this_undoMany a_this_isKept a_this_kept v_this_fewestMany v_this_fewestSets v_this_fewestSet v_this_fewestMost a_this_aside a_this_seens v_this_seenMany v_this_told v_this_st) 146 [(0, .ref a_this), (1, .int x1), (2, .int x2), (3, .int x3), (4, .int x4)] []) → ∀ (x1 : Int32) (x2 : Int32) (x3 : Int32) (x4 : Int32) (x5 : Int32) (v_this_fewestMany : Int32) (v_this_fewestSets : Int32) (v_this_fewestSet : Int32) (v_this_fewestMost : Int32), f_X9_findFewest_b226 v_this_told v_this_st k_146 x1 x2 x3 x4 x5 v_this_fewestMany v_this_fewestSets v_this_fewestSet v_this_fewestMost = some res → Z (w_X9_findFewest cyI cyZ cyW a_this a_this_told a_this_st a_this_text v_this_letters v_this_place v_this_token v_this_value v_this_begins a_this_read v_this_clauses a_this_ahead v_this_undoMany a_this_isKept a_this_kept v_this_fewestMany v_this_fewestSets v_this_fewestSet v_this_fewestMost a_this_aside a_this_seens v_this_seenMany v_this_told v_this_st) 226 [(0, .ref a_this), (1, .int x1), (2, .int x2), (3, .int x3), (4, .int x4), (5, .int x5)] [] := by
    subst hZ
    intro k_146 hk_146 x1 x2 x3 x4 x5 v_this_fewestMany v_this_fewestSets v_this_fewestSet v_this_fewestMost hf
    refine r_aload_n C dX9_findFewest_226 rfl 0 rfl ?_
    refine r_dup C dX9_findFewest_227 rfl ?_
    refine r_get C in_X9_findFewest_X9 0 rfl rfl 17 (by decide) lk_X9_findFewest_3 rfl rfl dX9_findFewest_228 ?_
    refine r_iload C dX9_findFewest_231 5 rfl ?_
    refine r_iload_n C dX9_findFewest_233 rfl 3 rfl ?_
    refine r_icmp_ne C 244 dX9_findFewest_234 (by decide) hf (fun hf => ?_) (fun hf => ?_)
    · refine r_iconst C 0 dX9_findFewest_244 (by decide) ?_
      exact ST_lv [0, 1, 2, 3, 4] rfl (hb_245 k_146 hk_146 x1 x2 x3 x4 0 v_this_fewestMost v_this_fewestMany v_this_fewestSets v_this_fewestSet v_this_fewestMost hf)
    · refine r_iconst C 1 dX9_findFewest_237 (by decide) ?_
      refine r_iload C dX9_findFewest_238 4 rfl ?_
      refine r_ishl C dX9_findFewest_240 ?_
      refine r_goto C 245 dX9_findFewest_241 (by decide) ?_
      exact ST_lv [0, 1, 2, 3, 4] rfl (hb_245 k_146 hk_146 x1 x2 x3 x4 ((1 : Int32) <<< (x4 &&& 31)) v_this_fewestMost v_this_fewestMany v_this_fewestSets v_this_fewestSet v_this_fewestMost hf)
  have hb_212 : ∀ (k_146 : Int32 → Int32 → Int32 → Int32 → Int32 → Int32 → Int32 → Int32 → Option (Int32 × Int32 × Int32 × Int32 × Int32)), (∀ (x1 : Int32) (x2 : Int32) (x3 : Int32) (x4 : Int32) (v_this_fewestMany : Int32) (v_this_fewestSets : Int32) (v_this_fewestSet : Int32) (v_this_fewestMost : Int32), k_146 x1 x2 x3 x4 v_this_fewestMany v_this_fewestSets v_this_fewestSet v_this_fewestMost = some res → Z (w_X9_findFewest cyI cyZ cyW a_this a_this_told a_this_st a_this_text v_this_letters v_this_place v_this_token v_this_value v_this_begins a_this_read v_this_clauses a_this_ahead v_this_undoMany a_this_isKept a_this_kept v_this_fewestMany v_this_fewestSets v_this_fewestSet v_this_fewestMost a_this_aside a_this_seens v_this_seenMany v_this_told v_this_st) 146 [(0, .ref a_this), (1, .int x1), (2, .int x2), (3, .int x3), (4, .int x4)] []) → ∀ (x1 : Int32) (x2 : Int32) (x3 : Int32) (x4 : Int32) (x5 : Int32) (v_this_fewestMany : Int32) (v_this_fewestSets : Int32) (v_this_fewestSet : Int32) (v_this_fewestMost : Int32), f_X9_findFewest_b212 v_this_told v_this_st k_146 x1 x2 x3 x4 x5 v_this_fewestMany v_this_fewestSets v_this_fewestSet v_this_fewestMost = some res → Z (w_X9_findFewest cyI cyZ cyW a_this a_this_told a_this_st a_this_text v_this_letters v_this_place v_this_token v_this_value v_this_begins a_this_read v_this_clauses a_this_ahead v_this_undoMany a_this_isKept a_this_kept v_this_fewestMany v_this_fewestSets v_this_fewestSet v_this_fewestMost a_this_aside a_this_seens v_this_seenMany v_this_told v_this_st) 212 [(0, .ref a_this), (1, .int x1), (2, .int x2), (3, .int x3), (4, .int x4), (5, .int x5)] [] := by
    subst hZ
    intro k_146 hk_146 x1 x2 x3 x4 x5 v_this_fewestMany v_this_fewestSets v_this_fewestSet v_this_fewestMost hf
    refine r_iload C dX9_findFewest_212 5 rfl ?_
    refine r_iload_n C dX9_findFewest_214 rfl 3 rfl ?_
    refine r_icmp_le C 226 dX9_findFewest_215 (by decide) hf (fun hf => ?_) (fun hf => ?_)
    · exact ST_lv [0, 1, 2, 3, 4, 5] rfl (hb_226 k_146 hk_146 x1 x2 x3 x4 x5 v_this_fewestMany v_this_fewestSets v_this_fewestSet v_this_fewestMost hf)
    · refine r_iload C dX9_findFewest_218 5 rfl ?_
      refine r_istore_n (lv' := [(3, .int x5), (0, .ref a_this), (1, .int x1), (2, .int x2), (4, .int x4), (5, .int x5)]) C dX9_findFewest_220 rfl (by decide) rfl ?_
      refine r_aload_n C dX9_findFewest_221 rfl 1 rfl ?_
      refine r_iconst C 0 dX9_findFewest_222 (by decide) ?_
      refine r_put (ws' := (w_X9_findFewest cyI cyZ cyW a_this a_this_told a_this_st a_this_text v_this_letters v_this_place v_this_token v_this_value v_this_begins a_this_read v_this_clauses a_this_ahead v_this_undoMany a_this_isKept a_this_kept v_this_fewestMany v_this_fewestSets v_this_fewestSet 0 a_this_aside a_this_seens v_this_seenMany v_this_told v_this_st)) C in_X9_findFewest_X9 tyX9 tyX9_ok nmX9 0 rfl rfl 17 (by decide) lk_X9_findFewest_3 rfl rfl rfl rfl (Nat.le_of_ble_eq_true rfl) rfl dX9_findFewest_223 ?_
      exact ST_lv [1, 2, 3, 0, 4, 5] rfl (hb_226 k_146 hk_146 x1 x2 x5 x4 x5 v_this_fewestMany v_this_fewestSets v_this_fewestSet 0 hf)
  have hb_203 : ∀ (k_146 : Int32 → Int32 → Int32 → Int32 → Int32 → Int32 → Int32 → Int32 → Option (Int32 × Int32 × Int32 × Int32 × Int32)), (∀ (x1 : Int32) (x2 : Int32) (x3 : Int32) (x4 : Int32) (v_this_fewestMany : Int32) (v_this_fewestSets : Int32) (v_this_fewestSet : Int32) (v_this_fewestMost : Int32), k_146 x1 x2 x3 x4 v_this_fewestMany v_this_fewestSets v_this_fewestSet v_this_fewestMost = some res → Z (w_X9_findFewest cyI cyZ cyW a_this a_this_told a_this_st a_this_text v_this_letters v_this_place v_this_token v_this_value v_this_begins a_this_read v_this_clauses a_this_ahead v_this_undoMany a_this_isKept a_this_kept v_this_fewestMany v_this_fewestSets v_this_fewestSet v_this_fewestMost a_this_aside a_this_seens v_this_seenMany v_this_told v_this_st) 146 [(0, .ref a_this), (1, .int x1), (2, .int x2), (3, .int x3), (4, .int x4)] []) → ∀ (k_163 : Int32 → Int32 → Int32 → Int32 → Int32 → Int32 → Int32 → Int32 → Int32 → Int32 → Option (Int32 × Int32 × Int32 × Int32 × Int32)), (∀ (x1 : Int32) (x2 : Int32) (x3 : Int32) (x4 : Int32) (x5 : Int32) (x6 : Int32) (v_this_fewestMany : Int32) (v_this_fewestSets : Int32) (v_this_fewestSet : Int32) (v_this_fewestMost : Int32), k_163 x1 x2 x3 x4 x5 x6 v_this_fewestMany v_this_fewestSets v_this_fewestSet v_this_fewestMost = some res → Z (w_X9_findFewest cyI cyZ cyW a_this a_this_told a_this_st a_this_text v_this_letters v_this_place v_this_token v_this_value v_this_begins a_this_read v_this_clauses a_this_ahead v_this_undoMany a_this_isKept a_this_kept v_this_fewestMany v_this_fewestSets v_this_fewestSet v_this_fewestMost a_this_aside a_this_seens v_this_seenMany v_this_told v_this_st) 163 [(0, .ref a_this), (1, .int x1), (2, .int x2), (3, .int x3), (4, .int x4), (5, .int x5), (6, .int x6)] []) → ∀ (x1 : Int32) (x2 : Int32) (x3 : Int32) (x4 : Int32) (x6 : Int32) (s0 : Int32) (s1 : Int32) (v_this_fewestMany : Int32) (v_this_fewestSets : Int32) (v_this_fewestSet : Int32) (v_this_fewestMost : Int32), f_X9_findFewest_b203 v_this_told v_this_st k_146 k_163 x1 x2 x3 x4 x6 s0 s1 v_this_fewestMany v_this_fewestSets v_this_fewestSet v_this_fewestMost = some res → Z (w_X9_findFewest cyI cyZ cyW a_this a_this_told a_this_st a_this_text v_this_letters v_this_place v_this_token v_this_value v_this_begins a_this_read v_this_clauses a_this_ahead v_this_undoMany a_this_isKept a_this_kept v_this_fewestMany v_this_fewestSets v_this_fewestSet v_this_fewestMost a_this_aside a_this_seens v_this_seenMany v_this_told v_this_st) 203 [(0, .ref a_this), (1, .int x1), (2, .int x2), (3, .int x3), (4, .int x4), (6, .int x6)] [.int s0, .int s1] := by
    subst hZ
    intro k_146 hk_146 k_163 hk_163 x1 x2 x3 x4 x6 s0 s1 v_this_fewestMany v_this_fewestSets v_this_fewestSet v_this_fewestMost hf
    refine r_iadd C dX9_findFewest_203 ?_
    refine r_istore (lv' := [(5, .int (s1 + s0)), (0, .ref a_this), (1, .int x1), (2, .int x2), (3, .int x3), (4, .int x4), (6, .int x6)]) C dX9_findFewest_204 (by decide) rfl ?_
    refine r_iinc (v := 1) (k := 6) (lv' := [(6, .int (x6 + 1)), (5, .int (s1 + s0)), (0, .ref a_this), (1, .int x1), (2, .int x2), (3, .int x3), (4, .int x4)]) C dX9_findFewest_206 rfl (by decide) (by decide) rfl ?_
    refine r_goto C 163 dX9_findFewest_209 (by decide) ?_
    exact ST_lv [2, 3, 4, 5, 6, 1, 0] rfl (hk_163 x1 x2 x3 x4 (s1 + s0) (x6 + 1) v_this_fewestMany v_this_fewestSets v_this_fewestSet v_this_fewestMost hf)
  have hb_202 : ∀ (k_146 : Int32 → Int32 → Int32 → Int32 → Int32 → Int32 → Int32 → Int32 → Option (Int32 × Int32 × Int32 × Int32 × Int32)), (∀ (x1 : Int32) (x2 : Int32) (x3 : Int32) (x4 : Int32) (v_this_fewestMany : Int32) (v_this_fewestSets : Int32) (v_this_fewestSet : Int32) (v_this_fewestMost : Int32), k_146 x1 x2 x3 x4 v_this_fewestMany v_this_fewestSets v_this_fewestSet v_this_fewestMost = some res → Z (w_X9_findFewest cyI cyZ cyW a_this a_this_told a_this_st a_this_text v_this_letters v_this_place v_this_token v_this_value v_this_begins a_this_read v_this_clauses a_this_ahead v_this_undoMany a_this_isKept a_this_kept v_this_fewestMany v_this_fewestSets v_this_fewestSet v_this_fewestMost a_this_aside a_this_seens v_this_seenMany v_this_told v_this_st) 146 [(0, .ref a_this), (1, .int x1), (2, .int x2), (3, .int x3), (4, .int x4)] []) → ∀ (k_163 : Int32 → Int32 → Int32 → Int32 → Int32 → Int32 → Int32 → Int32 → Int32 → Int32 → Option (Int32 × Int32 × Int32 × Int32 × Int32)), (∀ (x1 : Int32) (x2 : Int32) (x3 : Int32) (x4 : Int32) (x5 : Int32) (x6 : Int32) (v_this_fewestMany : Int32) (v_this_fewestSets : Int32) (v_this_fewestSet : Int32) (v_this_fewestMost : Int32), k_163 x1 x2 x3 x4 x5 x6 v_this_fewestMany v_this_fewestSets v_this_fewestSet v_this_fewestMost = some res → Z (w_X9_findFewest cyI cyZ cyW a_this a_this_told a_this_st a_this_text v_this_letters v_this_place v_this_token v_this_value v_this_begins a_this_read v_this_clauses a_this_ahead v_this_undoMany a_this_isKept a_this_kept v_this_fewestMany v_this_fewestSets v_this_fewestSet v_this_fewestMost a_this_aside a_this_seens v_this_seenMany v_this_told v_this_st) 163 [(0, .ref a_this), (1, .int x1), (2, .int x2), (3, .int x3), (4, .int x4), (5, .int x5), (6, .int x6)] []) → ∀ (x1 : Int32) (x2 : Int32) (x3 : Int32) (x4 : Int32) (x6 : Int32) (s0 : Int32) (v_this_fewestMany : Int32) (v_this_fewestSets : Int32) (v_this_fewestSet : Int32) (v_this_fewestMost : Int32), f_X9_findFewest_b202 v_this_told v_this_st k_146 k_163 x1 x2 x3 x4 x6 s0 v_this_fewestMany v_this_fewestSets v_this_fewestSet v_this_fewestMost = some res → Z (w_X9_findFewest cyI cyZ cyW a_this a_this_told a_this_st a_this_text v_this_letters v_this_place v_this_token v_this_value v_this_begins a_this_read v_this_clauses a_this_ahead v_this_undoMany a_this_isKept a_this_kept v_this_fewestMany v_this_fewestSets v_this_fewestSet v_this_fewestMost a_this_aside a_this_seens v_this_seenMany v_this_told v_this_st) 202 [(0, .ref a_this), (1, .int x1), (2, .int x2), (3, .int x3), (4, .int x4), (6, .int x6)] [.int s0] := by
    subst hZ
    intro k_146 hk_146 k_163 hk_163 x1 x2 x3 x4 x6 s0 v_this_fewestMany v_this_fewestSets v_this_fewestSet v_this_fewestMost hf
    refine r_iconst C 0 dX9_findFewest_202 (by decide) ?_
    exact ST_lv [0, 1, 2, 3, 4, 5] rfl (hb_203 k_146 hk_146 k_163 hk_163 x1 x2 x3 x4 x6 0 s0 v_this_fewestMany v_this_fewestSets v_this_fewestSet v_this_fewestMost hf)
  have hs_163 : ∀ (k_146 : Int32 → Int32 → Int32 → Int32 → Int32 → Int32 → Int32 → Int32 → Option (Int32 × Int32 × Int32 × Int32 × Int32)), (∀ (x1 : Int32) (x2 : Int32) (x3 : Int32) (x4 : Int32) (v_this_fewestMany : Int32) (v_this_fewestSets : Int32) (v_this_fewestSet : Int32) (v_this_fewestMost : Int32), k_146 x1 x2 x3 x4 v_this_fewestMany v_this_fewestSets v_this_fewestSet v_this_fewestMost = some res → Z (w_X9_findFewest cyI cyZ cyW a_this a_this_told a_this_st a_this_text v_this_letters v_this_place v_this_token v_this_value v_this_begins a_this_read v_this_clauses a_this_ahead v_this_undoMany a_this_isKept a_this_kept v_this_fewestMany v_this_fewestSets v_this_fewestSet v_this_fewestMost a_this_aside a_this_seens v_this_seenMany v_this_told v_this_st) 146 [(0, .ref a_this), (1, .int x1), (2, .int x2), (3, .int x3), (4, .int x4)] []) → ∀ (k_163 : Int32 → Int32 → Int32 → Int32 → Int32 → Int32 → Int32 → Int32 → Int32 → Int32 → Option (Int32 × Int32 × Int32 × Int32 × Int32)), (∀ (x1 : Int32) (x2 : Int32) (x3 : Int32) (x4 : Int32) (x5 : Int32) (x6 : Int32) (v_this_fewestMany : Int32) (v_this_fewestSets : Int32) (v_this_fewestSet : Int32) (v_this_fewestMost : Int32), k_163 x1 x2 x3 x4 x5 x6 v_this_fewestMany v_this_fewestSets v_this_fewestSet v_this_fewestMost = some res → Z (w_X9_findFewest cyI cyZ cyW a_this a_this_told a_this_st a_this_text v_this_letters v_this_place v_this_token v_this_value v_this_begins a_this_read v_this_clauses a_this_ahead v_this_undoMany a_this_isKept a_this_kept v_this_fewestMany v_this_fewestSets v_this_fewestSet v_this_fewestMost a_this_aside a_this_seens v_this_seenMany v_this_told v_this_st) 163 [(0, .ref a_this), (1, .int x1), (2, .int x2), (3, .int x3), (4, .int x4), (5, .int x5), (6, .int x6)] []) → ∀ (x1 : Int32) (x2 : Int32) (x3 : Int32) (x4 : Int32) (x5 : Int32) (x6 : Int32) (v_this_fewestMany : Int32) (v_this_fewestSets : Int32) (v_this_fewestSet : Int32) (v_this_fewestMost : Int32), f_X9_findFewest_s163 v_this_told v_this_st k_146 k_163 x1 x2 x3 x4 x5 x6 v_this_fewestMany v_this_fewestSets v_this_fewestSet v_this_fewestMost = some res → Z (w_X9_findFewest cyI cyZ cyW a_this a_this_told a_this_st a_this_text v_this_letters v_this_place v_this_token v_this_value v_this_begins a_this_read v_this_clauses a_this_ahead v_this_undoMany a_this_isKept a_this_kept v_this_fewestMany v_this_fewestSets v_this_fewestSet v_this_fewestMost a_this_aside a_this_seens v_this_seenMany v_this_told v_this_st) 163 [(0, .ref a_this), (1, .int x1), (2, .int x2), (3, .int x3), (4, .int x4), (5, .int x5), (6, .int x6)] [] := by
    subst hZ
    intro k_146 hk_146 k_163 hk_163 x1 x2 x3 x4 x5 x6 v_this_fewestMany v_this_fewestSets v_this_fewestSet v_this_fewestMost hf
    refine r_iload C dX9_findFewest_163 6 rfl ?_
    refine r_iload_n C dX9_findFewest_165 rfl 2 rfl ?_
    refine r_icmp_gt C 212 dX9_findFewest_166 (by decide) hf (fun hf => ?_) (fun hf => ?_)
    · exact ST_lv [0, 1, 2, 3, 4, 5] rfl (hb_212 k_146 hk_146 x1 x2 x3 x4 x5 v_this_fewestMany v_this_fewestSets v_this_fewestSet v_this_fewestMost hf)
    · refine r_iload C dX9_findFewest_169 4 rfl ?_
      refine r_iload_n C dX9_findFewest_171 rfl 1 rfl ?_
      refine r_icmp_eq C 212 dX9_findFewest_172 (by decide) hf (fun hf => ?_) (fun hf => ?_)
      · exact ST_lv [0, 1, 2, 3, 4, 5] rfl (hb_212 k_146 hk_146 x1 x2 x3 x4 x5 v_this_fewestMany v_this_fewestSets v_this_fewestSet v_this_fewestMost hf)
      · refine r_iload C dX9_findFewest_175 5 rfl ?_
        refine r_iload C dX9_findFewest_177 6 rfl ?_
        refine r_iload C dX9_findFewest_179 4 rfl ?_
        obtain ⟨y15, hy16, hf⟩ := bd_some hf
        refine r_roS_i (As := [.int x6, .int x4]) (rest := [.int x5]) C (c_X9_has l D cyI cyZ cyW x6 x4 y15 hy16) gX9_findFewest_X9_has rfl hyS_X9_has ⟨rfl, rfl, (Nat.le_of_ble_eq_true rfl), (Nat.le_of_ble_eq_true rfl)⟩ rfl [] rfl rfl rfl (Nat.le_of_ble_eq_true rfl) ⟨Nat.zero_le _, Nat.zero_le _⟩ dX9_findFewest_181 ?_
        refine r_if_eq C 202 dX9_findFewest_184 (by decide) hf (fun hf => ?_) (fun hf => ?_)
        · exact ST_lv [0, 1, 2, 3, 4, 6] rfl (hb_202 k_146 hk_146 k_163 hk_163 x1 x2 x3 x4 x6 x5 v_this_fewestMany v_this_fewestSets v_this_fewestSet v_this_fewestMost hf)
        · refine r_aload_n C dX9_findFewest_187 rfl 0 rfl ?_
          refine r_iload C dX9_findFewest_188 6 rfl ?_
          refine r_iload_n C dX9_findFewest_190 rfl 1 rfl ?_
          refine r_iload_n C dX9_findFewest_191 rfl 2 rfl ?_
          obtain ⟨y17, hy18, hf⟩ := bd_some hf
          refine r_roV_i (As := [.int x6, .int x1, .int x2]) (rest := [.int x5]) C (c_X9_isFew l D cyI cyZ cyW a_this a_this_told a_this_st a_this_text v_this_letters v_this_place v_this_token v_this_value v_this_begins a_this_read v_this_clauses a_this_ahead v_this_undoMany a_this_isKept a_this_kept v_this_fewestMany v_this_fewestSets v_this_fewestSet v_this_fewestMost a_this_aside a_this_seens v_this_seenMany v_this_told v_this_st x6 x1 x2 y17 hy18) gX9_findFewest_X9_isFew rfl hyV_X9_isFew ⟨rfl, rfl, (Nat.le_of_ble_eq_true rfl), (Nat.le_of_ble_eq_true rfl)⟩ rfl 0 rfl rfl [0, 1, 2] rfl rfl rfl (Nat.le_of_ble_eq_true rfl) ⟨Nat.zero_le _, Nat.zero_le _⟩ dX9_findFewest_192 ?_
          refine r_if_eq C 202 dX9_findFewest_195 (by decide) hf (fun hf => ?_) (fun hf => ?_)
          · exact ST_lv [0, 1, 2, 3, 4, 6] rfl (hb_202 k_146 hk_146 k_163 hk_163 x1 x2 x3 x4 x6 x5 v_this_fewestMany v_this_fewestSets v_this_fewestSet v_this_fewestMost hf)
          · refine r_iconst C 1 dX9_findFewest_198 (by decide) ?_
            refine r_goto C 203 dX9_findFewest_199 (by decide) ?_
            exact ST_lv [0, 1, 2, 3, 4, 6] rfl (hb_203 k_146 hk_146 k_163 hk_163 x1 x2 x3 x4 x6 1 x5 v_this_fewestMany v_this_fewestSets v_this_fewestSet v_this_fewestMost hf)
  have hb_163 : ∀ (k_146 : Int32 → Int32 → Int32 → Int32 → Int32 → Int32 → Int32 → Int32 → Option (Int32 × Int32 × Int32 × Int32 × Int32)), (∀ (x1 : Int32) (x2 : Int32) (x3 : Int32) (x4 : Int32) (v_this_fewestMany : Int32) (v_this_fewestSets : Int32) (v_this_fewestSet : Int32) (v_this_fewestMost : Int32), k_146 x1 x2 x3 x4 v_this_fewestMany v_this_fewestSets v_this_fewestSet v_this_fewestMost = some res → Z (w_X9_findFewest cyI cyZ cyW a_this a_this_told a_this_st a_this_text v_this_letters v_this_place v_this_token v_this_value v_this_begins a_this_read v_this_clauses a_this_ahead v_this_undoMany a_this_isKept a_this_kept v_this_fewestMany v_this_fewestSets v_this_fewestSet v_this_fewestMost a_this_aside a_this_seens v_this_seenMany v_this_told v_this_st) 146 [(0, .ref a_this), (1, .int x1), (2, .int x2), (3, .int x3), (4, .int x4)] []) → ∀ (n : Nat) (x1 : Int32) (x2 : Int32) (x3 : Int32) (x4 : Int32) (x5 : Int32) (x6 : Int32) (v_this_fewestMany : Int32) (v_this_fewestSets : Int32) (v_this_fewestSet : Int32) (v_this_fewestMost : Int32), f_X9_findFewest_b163 v_this_told v_this_st k_146 n x1 x2 x3 x4 x5 x6 v_this_fewestMany v_this_fewestSets v_this_fewestSet v_this_fewestMost = some res → Z (w_X9_findFewest cyI cyZ cyW a_this a_this_told a_this_st a_this_text v_this_letters v_this_place v_this_token v_this_value v_this_begins a_this_read v_this_clauses a_this_ahead v_this_undoMany a_this_isKept a_this_kept v_this_fewestMany v_this_fewestSets v_this_fewestSet v_this_fewestMost a_this_aside a_this_seens v_this_seenMany v_this_told v_this_st) 163 [(0, .ref a_this), (1, .int x1), (2, .int x2), (3, .int x3), (4, .int x4), (5, .int x5), (6, .int x6)] [] := by
    intro k_146 hk_146 n
    induction n with
    | zero => intro x1 x2 x3 x4 x5 x6 v_this_fewestMany v_this_fewestSets v_this_fewestSet v_this_fewestMost hf; exact nn_ hf
    | succ n ih => exact fun x1 x2 x3 x4 x5 x6 v_this_fewestMany v_this_fewestSets v_this_fewestSet v_this_fewestMost hf => hs_163 k_146 hk_146 _ ih x1 x2 x3 x4 x5 x6 v_this_fewestMany v_this_fewestSets v_this_fewestSet v_this_fewestMost hf
  have hs_146 : ∀ (k_146 : Int32 → Int32 → Int32 → Int32 → Int32 → Int32 → Int32 → Int32 → Option (Int32 × Int32 × Int32 × Int32 × Int32)), (∀ (x1 : Int32) (x2 : Int32) (x3 : Int32) (x4 : Int32) (v_this_fewestMany : Int32) (v_this_fewestSets : Int32) (v_this_fewestSet : Int32) (v_this_fewestMost : Int32), k_146 x1 x2 x3 x4 v_this_fewestMany v_this_fewestSets v_this_fewestSet v_this_fewestMost = some res → Z (w_X9_findFewest cyI cyZ cyW a_this a_this_told a_this_st a_this_text v_this_letters v_this_place v_this_token v_this_value v_this_begins a_this_read v_this_clauses a_this_ahead v_this_undoMany a_this_isKept a_this_kept v_this_fewestMany v_this_fewestSets v_this_fewestSet v_this_fewestMost a_this_aside a_this_seens v_this_seenMany v_this_told v_this_st) 146 [(0, .ref a_this), (1, .int x1), (2, .int x2), (3, .int x3), (4, .int x4)] []) → ∀ (x1 : Int32) (x2 : Int32) (x3 : Int32) (x4 : Int32) (v_this_fewestMany : Int32) (v_this_fewestSets : Int32) (v_this_fewestSet : Int32) (v_this_fewestMost : Int32), f_X9_findFewest_s146 v_this_told v_this_st k_146 x1 x2 x3 x4 v_this_fewestMany v_this_fewestSets v_this_fewestSet v_this_fewestMost = some res → Z (w_X9_findFewest cyI cyZ cyW a_this a_this_told a_this_st a_this_text v_this_letters v_this_place v_this_token v_this_value v_this_begins a_this_read v_this_clauses a_this_ahead v_this_undoMany a_this_isKept a_this_kept v_this_fewestMany v_this_fewestSets v_this_fewestSet v_this_fewestMost a_this_aside a_this_seens v_this_seenMany v_this_told v_this_st) 146 [(0, .ref a_this), (1, .int x1), (2, .int x2), (3, .int x3), (4, .int x4)] [] := by
    subst hZ
    intro k_146 hk_146 x1 x2 x3 x4 v_this_fewestMany v_this_fewestSets v_this_fewestSet v_this_fewestMost hf
    refine r_iload C dX9_findFewest_146 4 rfl ?_
    refine r_aload_n C dX9_findFewest_148 rfl 0 rfl ?_
    refine r_get C in_X9_findFewest_X9 0 rfl rfl 0 (by decide) lk_X9_findFewest_5 rfl rfl dX9_findFewest_149 ?_
    refine r_iconst C 0 dX9_findFewest_152 (by decide) ?_
    refine r_iald_k C 0 1 0 rfl rfl (kk_ 0 37 (by decide) (by decide)) dX9_findFewest_153 ?_
    refine r_icmp_ge C 255 dX9_findFewest_154 (by decide) hf (fun hf => ?_) (fun hf => ?_)
    · refine r_aload_n C dX9_findFewest_255 rfl 0 rfl ?_
      refine r_get C in_X9_findFewest_X9 0 rfl rfl 15 (by decide) lk_X9_findFewest_2 rfl rfl dX9_findFewest_256 ?_
      refine r_if_le C 266 dX9_findFewest_259 (by decide) hf (fun hf => ?_) (fun hf => ?_)
      · refine r_iconst C 0 dX9_findFewest_266 (by decide) ?_
        rw [← Option.some.inj hf]
        exact r_zret (r := 0) C hr hlk rfl dX9_findFewest_267
      · refine r_iconst C 1 dX9_findFewest_262 (by decide) ?_
        refine r_goto C 267 dX9_findFewest_263 (by decide) ?_
        rw [← Option.some.inj hf]
        exact r_zret (r := 1) C hr hlk rfl dX9_findFewest_267
    · refine r_iconst C 0 dX9_findFewest_157 (by decide) ?_
      refine r_istore (lv' := [(5, .int 0), (0, .ref a_this), (1, .int x1), (2, .int x2), (3, .int x3), (4, .int x4)]) C dX9_findFewest_158 (by decide) rfl ?_
      refine r_iconst C 0 dX9_findFewest_160 (by decide) ?_
      refine r_istore (lv' := [(6, .int 0), (5, .int 0), (0, .ref a_this), (1, .int x1), (2, .int x2), (3, .int x3), (4, .int x4)]) C dX9_findFewest_161 (by decide) rfl ?_
      exact ST_lv [2, 3, 4, 5, 6, 1, 0] rfl (hb_163 k_146 hk_146 5000 x1 x2 x3 x4 0 0 v_this_fewestMany v_this_fewestSets v_this_fewestSet v_this_fewestMost hf)
  have hb_146 : ∀ (n : Nat) (x1 : Int32) (x2 : Int32) (x3 : Int32) (x4 : Int32) (v_this_fewestMany : Int32) (v_this_fewestSets : Int32) (v_this_fewestSet : Int32) (v_this_fewestMost : Int32), f_X9_findFewest_b146 v_this_told v_this_st n x1 x2 x3 x4 v_this_fewestMany v_this_fewestSets v_this_fewestSet v_this_fewestMost = some res → Z (w_X9_findFewest cyI cyZ cyW a_this a_this_told a_this_st a_this_text v_this_letters v_this_place v_this_token v_this_value v_this_begins a_this_read v_this_clauses a_this_ahead v_this_undoMany a_this_isKept a_this_kept v_this_fewestMany v_this_fewestSets v_this_fewestSet v_this_fewestMost a_this_aside a_this_seens v_this_seenMany v_this_told v_this_st) 146 [(0, .ref a_this), (1, .int x1), (2, .int x2), (3, .int x3), (4, .int x4)] [] := by
    intro  n
    induction n with
    | zero => intro x1 x2 x3 x4 v_this_fewestMany v_this_fewestSets v_this_fewestSet v_this_fewestMost hf; exact nn_ hf
    | succ n ih => exact fun x1 x2 x3 x4 v_this_fewestMany v_this_fewestSets v_this_fewestSet v_this_fewestMost hf => hs_146 _ ih x1 x2 x3 x4 v_this_fewestMany v_this_fewestSets v_this_fewestSet v_this_fewestMost hf
  have hb_137 : ∀ (k_105 : Int32 → Int32 → Int32 → Int32 → Int32 → Int32 → Int32 → Int32 → Option (Int32 × Int32 × Int32 × Int32 × Int32)), (∀ (x1 : Int32) (x2 : Int32) (x3 : Int32) (x4 : Int32) (v_this_fewestMany : Int32) (v_this_fewestSets : Int32) (v_this_fewestSet : Int32) (v_this_fewestMost : Int32), k_105 x1 x2 x3 x4 v_this_fewestMany v_this_fewestSets v_this_fewestSet v_this_fewestMost = some res → Z (w_X9_findFewest cyI cyZ cyW a_this a_this_told a_this_st a_this_text v_this_letters v_this_place v_this_token v_this_value v_this_begins a_this_read v_this_clauses a_this_ahead v_this_undoMany a_this_isKept a_this_kept v_this_fewestMany v_this_fewestSets v_this_fewestSet v_this_fewestMost a_this_aside a_this_seens v_this_seenMany v_this_told v_this_st) 105 [(0, .ref a_this), (1, .int x1), (2, .int x2), (3, .int x3), (4, .int x4)] []) → ∀ (x1 : Int32) (x2 : Int32) (x3 : Int32) (x4 : Int32) (v_this_fewestMany : Int32) (v_this_fewestSets : Int32) (v_this_fewestSet : Int32) (v_this_fewestMost : Int32), f_X9_findFewest_b137 v_this_told v_this_st k_105 x1 x2 x3 x4 v_this_fewestMany v_this_fewestSets v_this_fewestSet v_this_fewestMost = some res → Z (w_X9_findFewest cyI cyZ cyW a_this a_this_told a_this_st a_this_text v_this_letters v_this_place v_this_token v_this_value v_this_begins a_this_read v_this_clauses a_this_ahead v_this_undoMany a_this_isKept a_this_kept v_this_fewestMany v_this_fewestSets v_this_fewestSet v_this_fewestMost a_this_aside a_this_seens v_this_seenMany v_this_told v_this_st) 137 [(0, .ref a_this), (1, .int x1), (2, .int x2), (3, .int x3), (4, .int x4)] [] := by
    subst hZ
    intro k_105 hk_105 x1 x2 x3 x4 v_this_fewestMany v_this_fewestSets v_this_fewestSet v_this_fewestMost hf
    refine r_iinc (v := (-1)) (k := 4) (lv' := [(4, .int (x4 + (-1))), (0, .ref a_this), (1, .int x1), (2, .int x2), (3, .int x3)]) C dX9_findFewest_137 rfl (by decide) (by decide) rfl ?_
    refine r_goto C 105 dX9_findFewest_140 (by decide) ?_
    exact ST_lv [1, 2, 3, 4, 0] rfl (hk_105 x1 x2 x3 (x4 + (-1)) v_this_fewestMany v_this_fewestSets v_this_fewestSet v_this_fewestMost hf)
  have hs_105 : ∀ (k_105 : Int32 → Int32 → Int32 → Int32 → Int32 → Int32 → Int32 → Int32 → Option (Int32 × Int32 × Int32 × Int32 × Int32)), (∀ (x1 : Int32) (x2 : Int32) (x3 : Int32) (x4 : Int32) (v_this_fewestMany : Int32) (v_this_fewestSets : Int32) (v_this_fewestSet : Int32) (v_this_fewestMost : Int32), k_105 x1 x2 x3 x4 v_this_fewestMany v_this_fewestSets v_this_fewestSet v_this_fewestMost = some res → Z (w_X9_findFewest cyI cyZ cyW a_this a_this_told a_this_st a_this_text v_this_letters v_this_place v_this_token v_this_value v_this_begins a_this_read v_this_clauses a_this_ahead v_this_undoMany a_this_isKept a_this_kept v_this_fewestMany v_this_fewestSets v_this_fewestSet v_this_fewestMost a_this_aside a_this_seens v_this_seenMany v_this_told v_this_st) 105 [(0, .ref a_this), (1, .int x1), (2, .int x2), (3, .int x3), (4, .int x4)] []) → ∀ (x1 : Int32) (x2 : Int32) (x3 : Int32) (x4 : Int32) (v_this_fewestMany : Int32) (v_this_fewestSets : Int32) (v_this_fewestSet : Int32) (v_this_fewestMost : Int32), f_X9_findFewest_s105 v_this_told v_this_st k_105 x1 x2 x3 x4 v_this_fewestMany v_this_fewestSets v_this_fewestSet v_this_fewestMost = some res → Z (w_X9_findFewest cyI cyZ cyW a_this a_this_told a_this_st a_this_text v_this_letters v_this_place v_this_token v_this_value v_this_begins a_this_read v_this_clauses a_this_ahead v_this_undoMany a_this_isKept a_this_kept v_this_fewestMany v_this_fewestSets v_this_fewestSet v_this_fewestMost a_this_aside a_this_seens v_this_seenMany v_this_told v_this_st) 105 [(0, .ref a_this), (1, .int x1), (2, .int x2), (3, .int x3), (4, .int x4)] [] := by
    subst hZ
    intro k_105 hk_105 x1 x2 x3 x4 v_this_fewestMany v_this_fewestSets v_this_fewestSet v_this_fewestMost hf
    refine r_iload C dX9_findFewest_105 4 rfl ?_
    refine r_if_lt C 143 dX9_findFewest_107 (by decide) hf (fun hf => ?_) (fun hf => ?_)
    · refine r_iconst C 0 dX9_findFewest_143 (by decide) ?_
      refine r_istore (lv' := [(4, .int 0), (0, .ref a_this), (1, .int x1), (2, .int x2), (3, .int x3)]) C dX9_findFewest_144 (by decide) rfl ?_
      exact ST_lv [1, 2, 3, 4, 0] rfl (hb_146 5000 x1 x2 x3 0 v_this_fewestMany v_this_fewestSets v_this_fewestSet v_this_fewestMost hf)
    · refine r_aload_n C dX9_findFewest_110 rfl 0 rfl ?_
      refine r_iload C dX9_findFewest_111 4 rfl ?_
      refine r_iload_n C dX9_findFewest_113 rfl 1 rfl ?_
      refine r_iload_n C dX9_findFewest_114 rfl 2 rfl ?_
      obtain ⟨y13, hy14, hf⟩ := bd_some hf
      refine r_roV_i (As := [.int x4, .int x1, .int x2]) (rest := []) C (c_X9_isFew l D cyI cyZ cyW a_this a_this_told a_this_st a_this_text v_this_letters v_this_place v_this_token v_this_value v_this_begins a_this_read v_this_clauses a_this_ahead v_this_undoMany a_this_isKept a_this_kept v_this_fewestMany v_this_fewestSets v_this_fewestSet v_this_fewestMost a_this_aside a_this_seens v_this_seenMany v_this_told v_this_st x4 x1 x2 y13 hy14) gX9_findFewest_X9_isFew rfl hyV_X9_isFew ⟨rfl, rfl, (Nat.le_of_ble_eq_true rfl), (Nat.le_of_ble_eq_true rfl)⟩ rfl 0 rfl rfl [0, 1, 2] rfl rfl rfl (Nat.le_of_ble_eq_true rfl) ⟨Nat.zero_le _, Nat.zero_le _⟩ dX9_findFewest_115 ?_
      refine r_if_eq C 137 dX9_findFewest_118 (by decide) hf (fun hf => ?_) (fun hf => ?_)
      · exact ST_lv [0, 1, 2, 3, 4] rfl (hb_137 k_105 hk_105 x1 x2 x3 x4 v_this_fewestMany v_this_fewestSets v_this_fewestSet v_this_fewestMost hf)
      · refine r_aload_n C dX9_findFewest_121 rfl 0 rfl ?_
        refine r_dup C dX9_findFewest_122 rfl ?_
        refine r_get C in_X9_findFewest_X9 0 rfl rfl 15 (by decide) lk_X9_findFewest_2 rfl rfl dX9_findFewest_123 ?_
        refine r_iconst C 1 dX9_findFewest_126 (by decide) ?_
        refine r_iadd C dX9_findFewest_127 ?_
        refine r_put (ws' := (w_X9_findFewest cyI cyZ cyW a_this a_this_told a_this_st a_this_text v_this_letters v_this_place v_this_token v_this_value v_this_begins a_this_read v_this_clauses a_this_ahead v_this_undoMany a_this_isKept a_this_kept v_this_fewestMany (v_this_fewestSets + 1) v_this_fewestSet v_this_fewestMost a_this_aside a_this_seens v_this_seenMany v_this_told v_this_st)) C in_X9_findFewest_X9 tyX9 tyX9_ok nmX9 0 rfl rfl 15 (by decide) lk_X9_findFewest_2 rfl rfl rfl rfl (Nat.le_of_ble_eq_true rfl) rfl dX9_findFewest_128 ?_
        refine r_aload_n C dX9_findFewest_131 rfl 0 rfl ?_
        refine r_iload C dX9_findFewest_132 4 rfl ?_
        refine r_put (ws' := (w_X9_findFewest cyI cyZ cyW a_this a_this_told a_this_st a_this_text v_this_letters v_this_place v_this_token v_this_value v_this_begins a_this_read v_this_clauses a_this_ahead v_this_undoMany a_this_isKept a_this_kept v_this_fewestMany (v_this_fewestSets + 1) x4 v_this_fewestMost a_this_aside a_this_seens v_this_seenMany v_this_told v_this_st)) C in_X9_findFewest_X9 tyX9 tyX9_ok nmX9 0 rfl rfl 16 (by decide) lk_X9_findFewest_4 rfl rfl rfl rfl (Nat.le_of_ble_eq_true rfl) rfl dX9_findFewest_134 ?_
        exact ST_lv [0, 1, 2, 3, 4] rfl (hb_137 k_105 hk_105 x1 x2 x3 x4 v_this_fewestMany (v_this_fewestSets + 1) x4 v_this_fewestMost hf)
  have hb_105 : ∀ (n : Nat) (x1 : Int32) (x2 : Int32) (x3 : Int32) (x4 : Int32) (v_this_fewestMany : Int32) (v_this_fewestSets : Int32) (v_this_fewestSet : Int32) (v_this_fewestMost : Int32), f_X9_findFewest_b105 v_this_told v_this_st n x1 x2 x3 x4 v_this_fewestMany v_this_fewestSets v_this_fewestSet v_this_fewestMost = some res → Z (w_X9_findFewest cyI cyZ cyW a_this a_this_told a_this_st a_this_text v_this_letters v_this_place v_this_token v_this_value v_this_begins a_this_read v_this_clauses a_this_ahead v_this_undoMany a_this_isKept a_this_kept v_this_fewestMany v_this_fewestSets v_this_fewestSet v_this_fewestMost a_this_aside a_this_seens v_this_seenMany v_this_told v_this_st) 105 [(0, .ref a_this), (1, .int x1), (2, .int x2), (3, .int x3), (4, .int x4)] [] := by
    intro  n
    induction n with
    | zero => intro x1 x2 x3 x4 v_this_fewestMany v_this_fewestSets v_this_fewestSet v_this_fewestMost hf; exact nn_ hf
    | succ n ih => exact fun x1 x2 x3 x4 v_this_fewestMany v_this_fewestSets v_this_fewestSet v_this_fewestMost hf => hs_105 _ ih x1 x2 x3 x4 v_this_fewestMany v_this_fewestSets v_this_fewestSet v_this_fewestMost hf
  have hb_81 : ∀ (k_13 : Int32 → Int32 → Int32 → Int32 → Int32 → Int32 → Int32 → Option (Int32 × Int32 × Int32 × Int32 × Int32)), (∀ (x1 : Int32) (x2 : Int32) (x3 : Int32) (v_this_fewestMany : Int32) (v_this_fewestSets : Int32) (v_this_fewestSet : Int32) (v_this_fewestMost : Int32), k_13 x1 x2 x3 v_this_fewestMany v_this_fewestSets v_this_fewestSet v_this_fewestMost = some res → Z (w_X9_findFewest cyI cyZ cyW a_this a_this_told a_this_st a_this_text v_this_letters v_this_place v_this_token v_this_value v_this_begins a_this_read v_this_clauses a_this_ahead v_this_undoMany a_this_isKept a_this_kept v_this_fewestMany v_this_fewestSets v_this_fewestSet v_this_fewestMost a_this_aside a_this_seens v_this_seenMany v_this_told v_this_st) 13 [(0, .ref a_this), (1, .int x1), (2, .int x2), (3, .int x3)] []) → ∀ (x1 : Int32) (x2 : Int32) (x3 : Int32) (s0 : Int32) (v_this_fewestMany : Int32) (v_this_fewestSets : Int32) (v_this_fewestSet : Int32) (v_this_fewestMost : Int32), f_X9_findFewest_b81 v_this_told v_this_st k_13 x1 x2 x3 s0 v_this_fewestMany v_this_fewestSets v_this_fewestSet v_this_fewestMost = some res → Z (w_X9_findFewest cyI cyZ cyW a_this a_this_told a_this_st a_this_text v_this_letters v_this_place v_this_token v_this_value v_this_begins a_this_read v_this_clauses a_this_ahead v_this_undoMany a_this_isKept a_this_kept v_this_fewestMany v_this_fewestSets v_this_fewestSet v_this_fewestMost a_this_aside a_this_seens v_this_seenMany v_this_told v_this_st) 81 [(0, .ref a_this), (1, .int x1), (2, .int x2), (3, .int x3)] [.int s0, .ref a_this] := by
    subst hZ
    intro k_13 hk_13 x1 x2 x3 s0 v_this_fewestMany v_this_fewestSets v_this_fewestSet v_this_fewestMost hf
    refine r_put (ws' := (w_X9_findFewest cyI cyZ cyW a_this a_this_told a_this_st a_this_text v_this_letters v_this_place v_this_token v_this_value v_this_begins a_this_read v_this_clauses a_this_ahead v_this_undoMany a_this_isKept a_this_kept s0 v_this_fewestSets v_this_fewestSet v_this_fewestMost a_this_aside a_this_seens v_this_seenMany v_this_told v_this_st)) C in_X9_findFewest_X9 tyX9 tyX9_ok nmX9 0 rfl rfl 14 (by decide) lk_X9_findFewest_1 rfl rfl rfl rfl (Nat.le_of_ble_eq_true rfl) rfl dX9_findFewest_81 ?_
    refine r_iinc (v := 1) (k := 3) (lv' := [(3, .int (x3 + 1)), (0, .ref a_this), (1, .int x1), (2, .int x2)]) C dX9_findFewest_84 rfl (by decide) (by decide) rfl ?_
    refine r_goto C 13 dX9_findFewest_87 (by decide) ?_
    exact ST_lv [1, 2, 3, 0] rfl (hk_13 x1 x2 (x3 + 1) s0 v_this_fewestSets v_this_fewestSet v_this_fewestMost hf)
  have hb_77 : ∀ (k_13 : Int32 → Int32 → Int32 → Int32 → Int32 → Int32 → Int32 → Option (Int32 × Int32 × Int32 × Int32 × Int32)), (∀ (x1 : Int32) (x2 : Int32) (x3 : Int32) (v_this_fewestMany : Int32) (v_this_fewestSets : Int32) (v_this_fewestSet : Int32) (v_this_fewestMost : Int32), k_13 x1 x2 x3 v_this_fewestMany v_this_fewestSets v_this_fewestSet v_this_fewestMost = some res → Z (w_X9_findFewest cyI cyZ cyW a_this a_this_told a_this_st a_this_text v_this_letters v_this_place v_this_token v_this_value v_this_begins a_this_read v_this_clauses a_this_ahead v_this_undoMany a_this_isKept a_this_kept v_this_fewestMany v_this_fewestSets v_this_fewestSet v_this_fewestMost a_this_aside a_this_seens v_this_seenMany v_this_told v_this_st) 13 [(0, .ref a_this), (1, .int x1), (2, .int x2), (3, .int x3)] []) → ∀ (x1 : Int32) (x2 : Int32) (x3 : Int32) (v_this_fewestMany : Int32) (v_this_fewestSets : Int32) (v_this_fewestSet : Int32) (v_this_fewestMost : Int32), f_X9_findFewest_b77 v_this_told v_this_st k_13 x1 x2 x3 v_this_fewestMany v_this_fewestSets v_this_fewestSet v_this_fewestMost = some res → Z (w_X9_findFewest cyI cyZ cyW a_this a_this_told a_this_st a_this_text v_this_letters v_this_place v_this_token v_this_value v_this_begins a_this_read v_this_clauses a_this_ahead v_this_undoMany a_this_isKept a_this_kept v_this_fewestMany v_this_fewestSets v_this_fewestSet v_this_fewestMost a_this_aside a_this_seens v_this_seenMany v_this_told v_this_st) 77 [(0, .ref a_this), (1, .int x1), (2, .int x2), (3, .int x3)] [.ref a_this] := by
    subst hZ
    intro k_13 hk_13 x1 x2 x3 v_this_fewestMany v_this_fewestSets v_this_fewestSet v_this_fewestMost hf
    refine r_aload_n C dX9_findFewest_77 rfl 0 rfl ?_
    refine r_get C in_X9_findFewest_X9 0 rfl rfl 14 (by decide) lk_X9_findFewest_1 rfl rfl dX9_findFewest_78 ?_
    exact ST_lv [0, 1, 2, 3] rfl (hb_81 k_13 hk_13 x1 x2 x3 v_this_fewestMany v_this_fewestMany v_this_fewestSets v_this_fewestSet v_this_fewestMost hf)
  have hb_51 : ∀ (k_13 : Int32 → Int32 → Int32 → Int32 → Int32 → Int32 → Int32 → Option (Int32 × Int32 × Int32 × Int32 × Int32)), (∀ (x1 : Int32) (x2 : Int32) (x3 : Int32) (v_this_fewestMany : Int32) (v_this_fewestSets : Int32) (v_this_fewestSet : Int32) (v_this_fewestMost : Int32), k_13 x1 x2 x3 v_this_fewestMany v_this_fewestSets v_this_fewestSet v_this_fewestMost = some res → Z (w_X9_findFewest cyI cyZ cyW a_this a_this_told a_this_st a_this_text v_this_letters v_this_place v_this_token v_this_value v_this_begins a_this_read v_this_clauses a_this_ahead v_this_undoMany a_this_isKept a_this_kept v_this_fewestMany v_this_fewestSets v_this_fewestSet v_this_fewestMost a_this_aside a_this_seens v_this_seenMany v_this_told v_this_st) 13 [(0, .ref a_this), (1, .int x1), (2, .int x2), (3, .int x3)] []) → ∀ (x1 : Int32) (x2 : Int32) (x3 : Int32) (s0 : Int32) (v_this_fewestMany : Int32) (v_this_fewestSets : Int32) (v_this_fewestSet : Int32) (v_this_fewestMost : Int32), f_X9_findFewest_b51 v_this_told v_this_st k_13 x1 x2 x3 s0 v_this_fewestMany v_this_fewestSets v_this_fewestSet v_this_fewestMost = some res → Z (w_X9_findFewest cyI cyZ cyW a_this a_this_told a_this_st a_this_text v_this_letters v_this_place v_this_token v_this_value v_this_begins a_this_read v_this_clauses a_this_ahead v_this_undoMany a_this_isKept a_this_kept v_this_fewestMany v_this_fewestSets v_this_fewestSet v_this_fewestMost a_this_aside a_this_seens v_this_seenMany v_this_told v_this_st) 51 [(0, .ref a_this), (1, .int x1), (2, .int x2), (3, .int x3)] [.int s0] := by
    subst hZ
    intro k_13 hk_13 x1 x2 x3 s0 v_this_fewestMany v_this_fewestSets v_this_fewestSet v_this_fewestMost hf
    refine r_istore (lv' := [(4, .int s0), (0, .ref a_this), (1, .int x1), (2, .int x2), (3, .int x3)]) C dX9_findFewest_51 (by decide) rfl ?_
    refine r_aload_n C dX9_findFewest_53 rfl 1 rfl ?_
    refine r_iload C dX9_findFewest_54 0 rfl ?_
    refine r_if_eq C 77 dX9_findFewest_56 (by decide) hf (fun hf => ?_) (fun hf => ?_)
    · exact ST_lv [1, 2, 3, 4] rfl (hb_77 k_13 hk_13 x1 x2 x3 v_this_fewestMany v_this_fewestSets v_this_fewestSet v_this_fewestMost hf)
    · refine r_iload_n C dX9_findFewest_59 rfl 4 rfl ?_
      obtain ⟨y9, hy10, hf⟩ := bd_some hf
      refine r_roS_i (As := [.int x3]) (rest := [.ref a_this]) C (c_X9_ones l D cyI cyZ cyW x3 y9 hy10) gX9_findFewest_X9_ones rfl hyS_X9_ones ⟨rfl, rfl, (Nat.le_of_ble_eq_true rfl), (Nat.le_of_ble_eq_true rfl)⟩ rfl [] rfl rfl rfl (Nat.le_of_ble_eq_true rfl) ⟨Nat.zero_le _, Nat.zero_le _⟩ dX9_findFewest_60 ?_
      refine r_aload_n C dX9_findFewest_63 rfl 1 rfl ?_
      refine r_get C in_X9_findFewest_X9 0 rfl rfl 14 (by decide) lk_X9_findFewest_1 rfl rfl dX9_findFewest_64 ?_
      refine r_icmp_ge C 77 dX9_findFewest_67 (by decide) hf (fun hf => ?_) (fun hf => ?_)
      · exact ST_lv [1, 2, 3, 4] rfl (hb_77 k_13 hk_13 x1 x2 x3 v_this_fewestMany v_this_fewestSets v_this_fewestSet v_this_fewestMost hf)
      · refine r_iload_n C dX9_findFewest_70 rfl 4 rfl ?_
        obtain ⟨y11, hy12, hf⟩ := bd_some hf
        refine r_roS_i (As := [.int x3]) (rest := [.ref a_this]) C (c_X9_ones l D cyI cyZ cyW x3 y11 hy12) gX9_findFewest_X9_ones rfl hyS_X9_ones ⟨rfl, rfl, (Nat.le_of_ble_eq_true rfl), (Nat.le_of_ble_eq_true rfl)⟩ rfl [] rfl rfl rfl (Nat.le_of_ble_eq_true rfl) ⟨Nat.zero_le _, Nat.zero_le _⟩ dX9_findFewest_71 ?_
        refine r_goto C 81 dX9_findFewest_74 (by decide) ?_
        exact ST_lv [1, 2, 3, 4] rfl (hb_81 k_13 hk_13 x1 x2 x3 y11 v_this_fewestMany v_this_fewestSets v_this_fewestSet v_this_fewestMost hf)
  have hb_50 : ∀ (k_13 : Int32 → Int32 → Int32 → Int32 → Int32 → Int32 → Int32 → Option (Int32 × Int32 × Int32 × Int32 × Int32)), (∀ (x1 : Int32) (x2 : Int32) (x3 : Int32) (v_this_fewestMany : Int32) (v_this_fewestSets : Int32) (v_this_fewestSet : Int32) (v_this_fewestMost : Int32), k_13 x1 x2 x3 v_this_fewestMany v_this_fewestSets v_this_fewestSet v_this_fewestMost = some res → Z (w_X9_findFewest cyI cyZ cyW a_this a_this_told a_this_st a_this_text v_this_letters v_this_place v_this_token v_this_value v_this_begins a_this_read v_this_clauses a_this_ahead v_this_undoMany a_this_isKept a_this_kept v_this_fewestMany v_this_fewestSets v_this_fewestSet v_this_fewestMost a_this_aside a_this_seens v_this_seenMany v_this_told v_this_st) 13 [(0, .ref a_this), (1, .int x1), (2, .int x2), (3, .int x3)] []) → ∀ (x1 : Int32) (x2 : Int32) (x3 : Int32) (v_this_fewestMany : Int32) (v_this_fewestSets : Int32) (v_this_fewestSet : Int32) (v_this_fewestMost : Int32), f_X9_findFewest_b50 v_this_told v_this_st k_13 x1 x2 x3 v_this_fewestMany v_this_fewestSets v_this_fewestSet v_this_fewestMost = some res → Z (w_X9_findFewest cyI cyZ cyW a_this a_this_told a_this_st a_this_text v_this_letters v_this_place v_this_token v_this_value v_this_begins a_this_read v_this_clauses a_this_ahead v_this_undoMany a_this_isKept a_this_kept v_this_fewestMany v_this_fewestSets v_this_fewestSet v_this_fewestMost a_this_aside a_this_seens v_this_seenMany v_this_told v_this_st) 50 [(0, .ref a_this), (1, .int x1), (2, .int x2), (3, .int x3)] [] := by
    subst hZ
    intro k_13 hk_13 x1 x2 x3 v_this_fewestMany v_this_fewestSets v_this_fewestSet v_this_fewestMost hf
    refine r_iconst C 0 dX9_findFewest_50 (by decide) ?_
    exact ST_lv [0, 1, 2, 3] rfl (hb_51 k_13 hk_13 x1 x2 x3 0 v_this_fewestMany v_this_fewestSets v_this_fewestSet v_this_fewestMost hf)
  have hs_13 : ∀ (k_13 : Int32 → Int32 → Int32 → Int32 → Int32 → Int32 → Int32 → Option (Int32 × Int32 × Int32 × Int32 × Int32)), (∀ (x1 : Int32) (x2 : Int32) (x3 : Int32) (v_this_fewestMany : Int32) (v_this_fewestSets : Int32) (v_this_fewestSet : Int32) (v_this_fewestMost : Int32), k_13 x1 x2 x3 v_this_fewestMany v_this_fewestSets v_this_fewestSet v_this_fewestMost = some res → Z (w_X9_findFewest cyI cyZ cyW a_this a_this_told a_this_st a_this_text v_this_letters v_this_place v_this_token v_this_value v_this_begins a_this_read v_this_clauses a_this_ahead v_this_undoMany a_this_isKept a_this_kept v_this_fewestMany v_this_fewestSets v_this_fewestSet v_this_fewestMost a_this_aside a_this_seens v_this_seenMany v_this_told v_this_st) 13 [(0, .ref a_this), (1, .int x1), (2, .int x2), (3, .int x3)] []) → ∀ (x1 : Int32) (x2 : Int32) (x3 : Int32) (v_this_fewestMany : Int32) (v_this_fewestSets : Int32) (v_this_fewestSet : Int32) (v_this_fewestMost : Int32), f_X9_findFewest_s13 v_this_told v_this_st k_13 x1 x2 x3 v_this_fewestMany v_this_fewestSets v_this_fewestSet v_this_fewestMost = some res → Z (w_X9_findFewest cyI cyZ cyW a_this a_this_told a_this_st a_this_text v_this_letters v_this_place v_this_token v_this_value v_this_begins a_this_read v_this_clauses a_this_ahead v_this_undoMany a_this_isKept a_this_kept v_this_fewestMany v_this_fewestSets v_this_fewestSet v_this_fewestMost a_this_aside a_this_seens v_this_seenMany v_this_told v_this_st) 13 [(0, .ref a_this), (1, .int x1), (2, .int x2), (3, .int x3)] [] := by
    subst hZ
    intro k_13 hk_13 x1 x2 x3 v_this_fewestMany v_this_fewestSets v_this_fewestSet v_this_fewestMost hf
    refine r_iload_n C dX9_findFewest_13 rfl 3 rfl ?_
    refine r_iload_n C dX9_findFewest_14 rfl 2 rfl ?_
    refine r_icmp_gt C 90 dX9_findFewest_15 (by decide) hf (fun hf => ?_) (fun hf => ?_)
    · refine r_aload_n C dX9_findFewest_90 rfl 0 rfl ?_
      refine r_iconst C 0 dX9_findFewest_91 (by decide) ?_
      refine r_put (ws' := (w_X9_findFewest cyI cyZ cyW a_this a_this_told a_this_st a_this_text v_this_letters v_this_place v_this_token v_this_value v_this_begins a_this_read v_this_clauses a_this_ahead v_this_undoMany a_this_isKept a_this_kept v_this_fewestMany 0 v_this_fewestSet v_this_fewestMost a_this_aside a_this_seens v_this_seenMany v_this_told v_this_st)) C in_X9_findFewest_X9 tyX9 tyX9_ok nmX9 0 rfl rfl 15 (by decide) lk_X9_findFewest_2 rfl rfl rfl rfl (Nat.le_of_ble_eq_true rfl) rfl dX9_findFewest_92 ?_
      refine r_iconst C 1 dX9_findFewest_95 (by decide) ?_
      refine r_istore_n (lv' := [(3, .int 1), (0, .ref a_this), (1, .int x1), (2, .int x2)]) C dX9_findFewest_96 rfl (by decide) rfl ?_
      refine r_aload_n C dX9_findFewest_97 rfl 1 rfl ?_
      refine r_iconst C 0 dX9_findFewest_98 (by decide) ?_
      refine r_put (ws' := (w_X9_findFewest cyI cyZ cyW a_this a_this_told a_this_st a_this_text v_this_letters v_this_place v_this_token v_this_value v_this_begins a_this_read v_this_clauses a_this_ahead v_this_undoMany a_this_isKept a_this_kept v_this_fewestMany 0 v_this_fewestSet 0 a_this_aside a_this_seens v_this_seenMany v_this_told v_this_st)) C in_X9_findFewest_X9 tyX9 tyX9_ok nmX9 0 rfl rfl 17 (by decide) lk_X9_findFewest_3 rfl rfl rfl rfl (Nat.le_of_ble_eq_true rfl) rfl dX9_findFewest_99 ?_
      refine r_iload_n C dX9_findFewest_102 rfl 3 rfl ?_
      refine r_istore (lv' := [(4, .int x2), (3, .int 1), (0, .ref a_this), (1, .int x1), (2, .int x2)]) C dX9_findFewest_103 (by decide) rfl ?_
      exact ST_lv [2, 3, 4, 1, 0] rfl (hb_105 5000 x1 x2 1 x2 v_this_fewestMany 0 v_this_fewestSet 0 hf)
    · refine r_iload_n C dX9_findFewest_18 rfl 3 rfl ?_
      refine r_iload_n C dX9_findFewest_19 rfl 1 rfl ?_
      obtain ⟨y3, hy4, hf⟩ := bd_some hf
      refine r_roS_i (As := [.int x3, .int x1]) (rest := []) C (c_X9_has l D cyI cyZ cyW x3 x1 y3 hy4) gX9_findFewest_X9_has rfl hyS_X9_has ⟨rfl, rfl, (Nat.le_of_ble_eq_true rfl), (Nat.le_of_ble_eq_true rfl)⟩ rfl [] rfl rfl rfl (Nat.le_of_ble_eq_true rfl) ⟨Nat.zero_le _, Nat.zero_le _⟩ dX9_findFewest_20 ?_
      refine r_if_eq C 50 dX9_findFewest_23 (by decide) hf (fun hf => ?_) (fun hf => ?_)
      · exact ST_lv [0, 1, 2, 3] rfl (hb_50 k_13 hk_13 x1 x2 x3 v_this_fewestMany v_this_fewestSets v_this_fewestSet v_this_fewestMost hf)
      · refine r_iload_n C dX9_findFewest_26 rfl 3 rfl ?_
        refine r_iload_n C dX9_findFewest_27 rfl 2 rfl ?_
        refine r_iconst C (-1) dX9_findFewest_28 (by decide) ?_
        refine r_ixor C dX9_findFewest_29 ?_
        refine r_iand C dX9_findFewest_30 ?_
        refine r_if_ne C 50 dX9_findFewest_31 (by decide) hf (fun hf => ?_) (fun hf => ?_)
        · exact ST_lv [0, 1, 2, 3] rfl (hb_50 k_13 hk_13 x1 x2 x3 v_this_fewestMany v_this_fewestSets v_this_fewestSet v_this_fewestMost hf)
        · refine r_aload_n C dX9_findFewest_34 rfl 0 rfl ?_
          refine r_iload_n C dX9_findFewest_35 rfl 3 rfl ?_
          obtain ⟨y5, hy6, hf⟩ := bd_some hf
          refine r_roV_i (As := [.int x3]) (rest := []) C (c_X9_warmBy l D cyI cyZ cyW a_this a_this_told a_this_st a_this_text v_this_letters v_this_place v_this_token v_this_value v_this_begins a_this_read v_this_clauses a_this_ahead v_this_undoMany a_this_isKept a_this_kept v_this_fewestMany v_this_fewestSets v_this_fewestSet v_this_fewestMost a_this_aside a_this_seens v_this_seenMany v_this_told x3 y5 hy6) gX9_findFewest_X9_warmBy rfl hyV_X9_warmBy ⟨rfl, rfl, (Nat.le_of_ble_eq_true rfl), (Nat.le_of_ble_eq_true rfl)⟩ rfl 0 rfl rfl [0, 1] rfl rfl rfl (Nat.le_of_ble_eq_true rfl) ⟨Nat.zero_le _, Nat.zero_le _⟩ dX9_findFewest_36 ?_
          refine r_aload_n C dX9_findFewest_39 rfl 0 rfl ?_
          obtain ⟨y7, hy8, hf⟩ := bd_some hf
          refine r_roV_i (As := []) (rest := [.int y5]) C (c_X9_coldNow l D cyI cyZ cyW a_this a_this_told a_this_st a_this_text v_this_letters v_this_place v_this_token v_this_value v_this_begins a_this_read v_this_clauses a_this_ahead v_this_undoMany a_this_isKept a_this_kept v_this_fewestMany v_this_fewestSets v_this_fewestSet v_this_fewestMost a_this_aside a_this_seens v_this_seenMany v_this_told v_this_st y7 hy8) gX9_findFewest_X9_coldNow rfl hyV_X9_coldNow ⟨rfl, rfl, (Nat.le_of_ble_eq_true rfl), (Nat.le_of_ble_eq_true rfl)⟩ rfl 0 rfl rfl [0, 1, 2] rfl rfl rfl (Nat.le_of_ble_eq_true rfl) ⟨Nat.zero_le _, Nat.zero_le _⟩ dX9_findFewest_40 ?_
          refine r_icmp_lt C 50 dX9_findFewest_43 (by decide) hf (fun hf => ?_) (fun hf => ?_)
          · exact ST_lv [0, 1, 2, 3] rfl (hb_50 k_13 hk_13 x1 x2 x3 v_this_fewestMany v_this_fewestSets v_this_fewestSet v_this_fewestMost hf)
          · refine r_iconst C 1 dX9_findFewest_46 (by decide) ?_
            refine r_goto C 51 dX9_findFewest_47 (by decide) ?_
            exact ST_lv [0, 1, 2, 3] rfl (hb_51 k_13 hk_13 x1 x2 x3 1 v_this_fewestMany v_this_fewestSets v_this_fewestSet v_this_fewestMost hf)
  have hb_13 : ∀ (n : Nat) (x1 : Int32) (x2 : Int32) (x3 : Int32) (v_this_fewestMany : Int32) (v_this_fewestSets : Int32) (v_this_fewestSet : Int32) (v_this_fewestMost : Int32), f_X9_findFewest_b13 v_this_told v_this_st n x1 x2 x3 v_this_fewestMany v_this_fewestSets v_this_fewestSet v_this_fewestMost = some res → Z (w_X9_findFewest cyI cyZ cyW a_this a_this_told a_this_st a_this_text v_this_letters v_this_place v_this_token v_this_value v_this_begins a_this_read v_this_clauses a_this_ahead v_this_undoMany a_this_isKept a_this_kept v_this_fewestMany v_this_fewestSets v_this_fewestSet v_this_fewestMost a_this_aside a_this_seens v_this_seenMany v_this_told v_this_st) 13 [(0, .ref a_this), (1, .int x1), (2, .int x2), (3, .int x3)] [] := by
    intro  n
    induction n with
    | zero => intro x1 x2 x3 v_this_fewestMany v_this_fewestSets v_this_fewestSet v_this_fewestMost hf; exact nn_ hf
    | succ n ih => exact fun x1 x2 x3 v_this_fewestMany v_this_fewestSets v_this_fewestSet v_this_fewestMost hf => hs_13 _ ih x1 x2 x3 v_this_fewestMany v_this_fewestSets v_this_fewestSet v_this_fewestMost hf
  subst hZ
  refine r_aload_n C dX9_findFewest_0 rfl 0 rfl ?_
  obtain ⟨y1, hy2, hf⟩ := bd_some hf
  refine r_roV_i (As := []) (rest := []) C (c_X9_alive l D cyI cyZ cyW a_this a_this_told a_this_st a_this_text v_this_letters v_this_place v_this_token v_this_value v_this_begins a_this_read v_this_clauses a_this_ahead v_this_undoMany a_this_isKept a_this_kept v_this_fewestMany v_this_fewestSets v_this_fewestSet v_this_fewestMost a_this_aside a_this_seens v_this_seenMany v_this_told v_this_st y1 hy2) gX9_findFewest_X9_alive rfl hyV_X9_alive ⟨rfl, rfl, (Nat.le_of_ble_eq_true rfl), (Nat.le_of_ble_eq_true rfl)⟩ rfl 0 rfl rfl [0, 1, 2] rfl rfl rfl (Nat.le_of_ble_eq_true rfl) ⟨Nat.zero_le _, Nat.zero_le _⟩ dX9_findFewest_1 ?_
  refine r_istore_n (lv' := [(2, .int y1), (0, .ref a_this), (1, .int x1)]) C dX9_findFewest_4 rfl (by decide) rfl ?_
  refine r_aload_n C dX9_findFewest_5 rfl 1 rfl ?_
  refine r_bipush C 8 dX9_findFewest_6 (by decide) ?_
  refine r_put (ws' := (w_X9_findFewest cyI cyZ cyW a_this a_this_told a_this_st a_this_text v_this_letters v_this_place v_this_token v_this_value v_this_begins a_this_read v_this_clauses a_this_ahead v_this_undoMany a_this_isKept a_this_kept 8 v_this_fewestSets v_this_fewestSet v_this_fewestMost a_this_aside a_this_seens v_this_seenMany v_this_told v_this_st)) C in_X9_findFewest_X9 tyX9 tyX9_ok nmX9 0 rfl rfl 14 (by decide) lk_X9_findFewest_1 rfl rfl rfl rfl (Nat.le_of_ble_eq_true rfl) rfl dX9_findFewest_8 ?_
  refine r_iconst C 0 dX9_findFewest_11 (by decide) ?_
  refine r_istore_n (lv' := [(3, .int 0), (2, .int y1), (0, .ref a_this), (1, .int x1)]) C dX9_findFewest_12 rfl (by decide) rfl ?_
  exact ST_lv [2, 3, 1, 0] rfl (hb_13 5000 x1 y1 0 8 v_this_fewestSets v_this_fewestSet v_this_fewestMost hf)

theorem lk_X9_fewest_1 : Cond.constantLong RX9 191 (3) ∈ wsX9_fewest := List.mem_of_getElem? (i := 1) rfl
theorem lk_X9_fewest_2 : Cond.fieldLink RX9 172 "ParishCoatModel" "fewestMany" "I" ∈ wsX9_fewest := List.mem_of_getElem? (i := 2) rfl
theorem lk_X9_fewest_3 : Cond.fieldLink RX9 178 "ParishCoatModel" "fewestSets" "I" ∈ wsX9_fewest := List.mem_of_getElem? (i := 3) rfl
theorem lk_X9_fewest_4 : Cond.fieldLink RX9 188 "ParishCoatModel" "fewestSet" "I" ∈ wsX9_fewest := List.mem_of_getElem? (i := 4) rfl
theorem lk_X9_fewest_5 : Cond.fieldLink RX9 181 "ParishCoatModel" "fewestMost" "I" ∈ wsX9_fewest := List.mem_of_getElem? (i := 5) rfl
theorem in_X9_fewest_X9 : ∀ w ∈ u_ws RX9 TX9 21, w ∈ wsX9_fewest := fun _ h => List.mem_cons_of_mem _ (List.mem_append_right _ h)
theorem hyV_X9_findFewest : yX9_findFewest.cls = RX9 ∧ yX9_findFewest.cls ≠ "java/lang/invoke/MethodHandle" ∧ yX9_findFewest.cls ≠ "java/lang/invoke/VarHandle" ∧ (parseMethodDescriptor yX9_findFewest.desc).map (fun d => d.parameters.length) = some 1 := by decide +kernel
theorem hyS_X9_findFewest : yX9_findFewest.cls ≠ "java/lang/invoke/MethodHandle" ∧ yX9_findFewest.cls ≠ "java/lang/invoke/VarHandle" ∧ (parseMethodDescriptor yX9_findFewest.desc).map (fun d => d.parameters.length) = some 1 := by decide +kernel
def f_X9_fewest (v_this_fewestMany : Int32) (v_this_fewestSets : Int32) (v_this_fewestSet : Int32) (v_this_fewestMost : Int32) (v_this_told : Nat → Int32) (v_this_st : Nat → Int32) (x1 : Int32) (x2 : Int32) : Option (Int32 × Int32 × Int32 × Int32 × Int32) := (f_X9_isFamily v_this_told x1).bind fun y1 => if y1 = 0 then (some ((-2), v_this_fewestMany, v_this_fewestSets, v_this_fewestSet, v_this_fewestMost)) else ((f_X9_in (Int32.toInt64 x2) 0 3).bind fun y3 => if y3 = 0 then (some ((-3), v_this_fewestMany, v_this_fewestSets, v_this_fewestSet, v_this_fewestMost)) else ((f_X9_isFrozen v_this_st x1).bind fun y5 => if y5 = 0 then (bd5 (f_X9_findFewest v_this_fewestMany v_this_fewestSets v_this_fewestSet v_this_fewestMost v_this_told v_this_st x1) (fun y7_0 y7_1 y7_2 y7_3 y7_4 => if y7_0 = 0 then (some ((-1), y7_1, y7_2, y7_3, y7_4)) else (if x2 = 0 then (some (y7_1, y7_1, y7_2, y7_3, y7_4)) else (if x2 = 1 then (some (y7_2, y7_1, y7_2, y7_3, y7_4)) else (if x2 = 2 then (some (y7_3, y7_1, y7_2, y7_3, y7_4)) else (some (y7_4, y7_1, y7_2, y7_3, y7_4))))))) else (some ((-4), v_this_fewestMany, v_this_fewestSets, v_this_fewestSet, v_this_fewestMost))))
def w_X9_fewest (cyI cyZ cyW : ClassId) (a_this : Nat) (a_this_told : Nat) (a_this_st : Nat) (a_this_text : Nat) (v_this_letters : Int32) (v_this_place : Int32) (v_this_token : Int32) (v_this_value : Int32) (v_this_begins : Int32) (a_this_read : Nat) (v_this_clauses : Int32) (a_this_ahead : Nat) (v_this_undoMany : Int32) (a_this_isKept : Nat) (a_this_kept : Nat) (v_this_fewestMany : Int32) (v_this_fewestSets : Int32) (v_this_fewestSet : Int32) (v_this_fewestMost : Int32) (a_this_aside : Nat) (a_this_seens : Nat) (v_this_seenMany : Int32) (v_this_told : Nat → Int32) (v_this_st : Nat → Int32) : va_W := [(a_this, .inr (9, [.ref a_this_told, .ref a_this_st, .ref a_this_text, .int v_this_letters, .int v_this_place, .int v_this_token, .int v_this_value, .int v_this_begins, .ref a_this_read, .int v_this_clauses, .ref a_this_ahead, .int v_this_undoMany, .ref a_this_isKept, .ref a_this_kept, .int v_this_fewestMany, .int v_this_fewestSets, .int v_this_fewestSet, .int v_this_fewestMost, .ref a_this_aside, .ref a_this_seens, .int v_this_seenMany])), (a_this_told, .inl (cyI, 37, .inl v_this_told)), (a_this_st, .inl (cyI, 15, .inl v_this_st))]
set_option maxHeartbeats 4000000 in
set_option maxRecDepth 100000 in
theorem c_X9_fewest (l : Launch) (D : va_G) (cyI cyZ cyW : ClassId) (a_this : Nat) (a_this_told : Nat) (a_this_st : Nat) (a_this_text : Nat) (v_this_letters : Int32) (v_this_place : Int32) (v_this_token : Int32) (v_this_value : Int32) (v_this_begins : Int32) (a_this_read : Nat) (v_this_clauses : Int32) (a_this_ahead : Nat) (v_this_undoMany : Int32) (a_this_isKept : Nat) (a_this_kept : Nat) (v_this_fewestMany : Int32) (v_this_fewestSets : Int32) (v_this_fewestSet : Int32) (v_this_fewestMost : Int32) (a_this_aside : Nat) (a_this_seens : Nat) (v_this_seenMany : Int32) (v_this_told : Nat → Int32) (v_this_st : Nat → Int32) (x1 : Int32) (x2 : Int32) (res : Int32 × Int32 × Int32 × Int32 × Int32) (hf : f_X9_fewest v_this_fewestMany v_this_fewestSets v_this_fewestSet v_this_fewestMost v_this_told v_this_st x1 x2 = some res) : ∀ sz, Met l yX9_fewest wsX9_fewest { frames := 4, cells := 0, slots := 0, locals := 94 } (PCx D (tyG cyI cyZ cyW) [.ref a_this, .int x1, .int x2] (w_X9_fewest cyI cyZ cyW a_this a_this_told a_this_st a_this_text v_this_letters v_this_place v_this_token v_this_value v_this_begins a_this_read v_this_clauses a_this_ahead v_this_undoMany a_this_isKept a_this_kept v_this_fewestMany v_this_fewestSets v_this_fewestSet v_this_fewestMost a_this_aside a_this_seens v_this_seenMany v_this_told v_this_st) sz) (QI D (tyG cyI cyZ cyW) (w_X9_fewest cyI cyZ cyW a_this a_this_told a_this_st a_this_text v_this_letters v_this_place v_this_token v_this_value v_this_begins a_this_read v_this_clauses a_this_ahead v_this_undoMany a_this_isKept a_this_kept v_this_fewestMany v_this_fewestSets v_this_fewestSet v_this_fewestMost a_this_aside a_this_seens v_this_seenMany v_this_told v_this_st) sz res.1 (w_X9_fewest cyI cyZ cyW a_this a_this_told a_this_st a_this_text v_this_letters v_this_place v_this_token v_this_value v_this_begins a_this_read v_this_clauses a_this_ahead v_this_undoMany a_this_isKept a_this_kept res.2.1 res.2.2.1 res.2.2.2.1 res.2.2.2.2 a_this_aside a_this_seens v_this_seenMany v_this_told v_this_st)) 0 0 (va_A (w_X9_fewest cyI cyZ cyW a_this a_this_told a_this_st a_this_text v_this_letters v_this_place v_this_token v_this_value v_this_begins a_this_read v_this_clauses a_this_ahead v_this_undoMany a_this_isKept a_this_kept v_this_fewestMany v_this_fewestSets v_this_fewestSet v_this_fewestMost a_this_aside a_this_seens v_this_seenMany v_this_told v_this_st) sz) := by
  intro sz
  refine met_of (cc := cX9_fewest) (maxL := 3) (ret := (some .int)) (lv0 := [(0, .ref a_this), (1, .int x1), (2, .int x2)]) (by decide) rfl ⟨(Nat.le_of_ble_eq_true rfl), rfl⟩ ?_
  intro p e s m below meth c C hr hlk hnm hsz
  subst hsz
  have C : CX p s m _ c 3 cX9_fewest RX9 wsX9_fewest D (tyG cyI cyZ cyW) _ := C
  refine r_aload_n C dX9_fewest_0 rfl 0 rfl ?_
  refine r_iload_n C dX9_fewest_1 rfl 1 rfl ?_
  obtain ⟨y1, hy2, hf⟩ := bd_some hf
  refine r_roV_i (As := [.int x1]) (rest := []) C (c_X9_isFamily l D cyI cyZ cyW a_this a_this_told a_this_st a_this_text v_this_letters v_this_place v_this_token v_this_value v_this_begins a_this_read v_this_clauses a_this_ahead v_this_undoMany a_this_isKept a_this_kept v_this_fewestMany v_this_fewestSets v_this_fewestSet v_this_fewestMost a_this_aside a_this_seens v_this_seenMany v_this_told x1 y1 hy2) gX9_fewest_X9_isFamily rfl hyV_X9_isFamily ⟨rfl, rfl, (Nat.le_of_ble_eq_true rfl), (Nat.le_of_ble_eq_true rfl)⟩ rfl 0 rfl rfl [0, 1] rfl rfl rfl (Nat.le_of_ble_eq_true rfl) ⟨Nat.zero_le _, Nat.zero_le _⟩ dX9_fewest_2 ?_
  refine r_if_ne C 11 dX9_fewest_5 (by decide) hf (fun hf => ?_) (fun hf => ?_)
  · refine r_iload_n C dX9_fewest_11 rfl 2 rfl ?_
    refine r_i2l C dX9_fewest_12 ?_
    refine r_lconst C 0 dX9_fewest_13 (by decide) ?_
    refine r_ldc2 C lk_X9_fewest_1 dX9_fewest_14 ?_
    obtain ⟨y3, hy4, hf⟩ := bd_some hf
    refine r_roS_i (As := [.long (Int32.toInt64 x2), .long 0, .long 3]) (rest := []) C (c_X9_in l D cyI cyZ cyW (Int32.toInt64 x2) 0 3 y3 hy4) gX9_fewest_X9_in rfl hyS_X9_in ⟨rfl, rfl, (Nat.le_of_ble_eq_true rfl), (Nat.le_of_ble_eq_true rfl)⟩ rfl [] rfl rfl rfl (Nat.le_of_ble_eq_true rfl) ⟨Nat.zero_le _, Nat.zero_le _⟩ dX9_fewest_17 ?_
    refine r_if_ne C 26 dX9_fewest_20 (by decide) hf (fun hf => ?_) (fun hf => ?_)
    · refine r_aload_n C dX9_fewest_26 rfl 0 rfl ?_
      refine r_iload_n C dX9_fewest_27 rfl 1 rfl ?_
      obtain ⟨y5, hy6, hf⟩ := bd_some hf
      refine r_roV_i (As := [.int x1]) (rest := []) C (c_X9_isFrozen l D cyI cyZ cyW a_this a_this_told a_this_st a_this_text v_this_letters v_this_place v_this_token v_this_value v_this_begins a_this_read v_this_clauses a_this_ahead v_this_undoMany a_this_isKept a_this_kept v_this_fewestMany v_this_fewestSets v_this_fewestSet v_this_fewestMost a_this_aside a_this_seens v_this_seenMany v_this_st x1 y5 hy6) gX9_fewest_X9_isFrozen rfl hyV_X9_isFrozen ⟨rfl, rfl, (Nat.le_of_ble_eq_true rfl), (Nat.le_of_ble_eq_true rfl)⟩ rfl 0 rfl rfl [0, 2] rfl rfl rfl (Nat.le_of_ble_eq_true rfl) ⟨Nat.zero_le _, Nat.zero_le _⟩ dX9_fewest_28 ?_
      refine r_if_eq C 37 dX9_fewest_31 (by decide) hf (fun hf => ?_) (fun hf => ?_)
      · refine r_aload_n C dX9_fewest_37 rfl 0 rfl ?_
        refine r_iload_n C dX9_fewest_38 rfl 1 rfl ?_
        obtain ⟨y7_0, y7_1, y7_2, y7_3, y7_4, hy8, hf⟩ := bd5_some hf
        refine r_callV_i (As := [.int x1]) (rest := []) (ws' := (w_X9_fewest cyI cyZ cyW a_this a_this_told a_this_st a_this_text v_this_letters v_this_place v_this_token v_this_value v_this_begins a_this_read v_this_clauses a_this_ahead v_this_undoMany a_this_isKept a_this_kept y7_1 y7_2 y7_3 y7_4 a_this_aside a_this_seens v_this_seenMany v_this_told v_this_st)) C (c_X9_findFewest l D cyI cyZ cyW a_this a_this_told a_this_st a_this_text v_this_letters v_this_place v_this_token v_this_value v_this_begins a_this_read v_this_clauses a_this_ahead v_this_undoMany a_this_isKept a_this_kept v_this_fewestMany v_this_fewestSets v_this_fewestSet v_this_fewestMost a_this_aside a_this_seens v_this_seenMany v_this_told v_this_st x1 (y7_0, y7_1, y7_2, y7_3, y7_4) hy8) gX9_fewest_X9_findFewest rfl hyV_X9_findFewest ⟨rfl, rfl, (Nat.le_of_ble_eq_true rfl), (Nat.le_of_ble_eq_true rfl)⟩ rfl 0 rfl rfl [0, 1, 2] rfl rfl rfl rfl rfl (Nat.le_of_ble_eq_true rfl) ⟨Nat.zero_le _, Nat.zero_le _⟩ dX9_fewest_39 ?_
        refine r_if_ne C 47 dX9_fewest_42 (by decide) hf (fun hf => ?_) (fun hf => ?_)
        · refine r_iload_n C dX9_fewest_47 rfl 2 rfl ?_
          refine r_if_ne C 58 dX9_fewest_48 (by decide) hf (fun hf => ?_) (fun hf => ?_)
          · refine r_iload_n C dX9_fewest_58 rfl 2 rfl ?_
            refine r_iconst C 1 dX9_fewest_59 (by decide) ?_
            refine r_icmp_ne C 70 dX9_fewest_60 (by decide) hf (fun hf => ?_) (fun hf => ?_)
            · refine r_iload_n C dX9_fewest_70 rfl 2 rfl ?_
              refine r_iconst C 2 dX9_fewest_71 (by decide) ?_
              refine r_icmp_ne C 82 dX9_fewest_72 (by decide) hf (fun hf => ?_) (fun hf => ?_)
              · refine r_aload_n C dX9_fewest_82 rfl 0 rfl ?_
                refine r_get C in_X9_fewest_X9 0 rfl rfl 17 (by decide) lk_X9_fewest_5 rfl rfl dX9_fewest_83 ?_
                rw [← Option.some.inj hf]
                exact r_iret C hr hlk dX9_fewest_86
              · refine r_aload_n C dX9_fewest_75 rfl 0 rfl ?_
                refine r_get C in_X9_fewest_X9 0 rfl rfl 16 (by decide) lk_X9_fewest_4 rfl rfl dX9_fewest_76 ?_
                refine r_goto C 86 dX9_fewest_79 (by decide) ?_
                rw [← Option.some.inj hf]
                exact r_iret C hr hlk dX9_fewest_86
            · refine r_aload_n C dX9_fewest_63 rfl 0 rfl ?_
              refine r_get C in_X9_fewest_X9 0 rfl rfl 15 (by decide) lk_X9_fewest_3 rfl rfl dX9_fewest_64 ?_
              refine r_goto C 86 dX9_fewest_67 (by decide) ?_
              rw [← Option.some.inj hf]
              exact r_iret C hr hlk dX9_fewest_86
          · refine r_aload_n C dX9_fewest_51 rfl 0 rfl ?_
            refine r_get C in_X9_fewest_X9 0 rfl rfl 14 (by decide) lk_X9_fewest_2 rfl rfl dX9_fewest_52 ?_
            refine r_goto C 86 dX9_fewest_55 (by decide) ?_
            rw [← Option.some.inj hf]
            exact r_iret C hr hlk dX9_fewest_86
        · refine r_iconst C (-1) dX9_fewest_45 (by decide) ?_
          rw [← Option.some.inj hf]
          exact r_iret C hr hlk dX9_fewest_46
      · refine r_bipush C (-4) dX9_fewest_34 (by decide) ?_
        rw [← Option.some.inj hf]
        exact r_iret C hr hlk dX9_fewest_36
    · refine r_bipush C (-3) dX9_fewest_23 (by decide) ?_
      rw [← Option.some.inj hf]
      exact r_iret C hr hlk dX9_fewest_25
  · refine r_bipush C (-2) dX9_fewest_8 (by decide) ?_
    rw [← Option.some.inj hf]
    exact r_iret C hr hlk dX9_fewest_10

theorem lk_X9_isSwing_1 : Cond.fieldLink RX9 7 "ParishCoatModel" "told" "[I" ∈ wsX9_isSwing := List.mem_of_getElem? (i := 1) rfl
theorem in_X9_isSwing_X9 : ∀ w ∈ u_ws RX9 TX9 21, w ∈ wsX9_isSwing := fun _ h => List.mem_cons_of_mem _ (List.mem_append_right _ h)
def f_X9_isSwing_b24 (v_this_told : Nat → Int32) (v_this_st : Nat → Int32) (x1 : Int32) (x2 : Int32) (s0 : Int32) : Option (Int32) := if s0 = 0 then (some (0)) else ((f_X9_weights v_this_st v_this_told x1).bind fun y5 => if (v_this_told 1) ≤ y5 then (some (0)) else ((f_X9_weights v_this_st v_this_told (x1 ||| ((1 : Int32) <<< (x2 &&& 31)))).bind fun y7 => if y7 < (v_this_told 1) then (some (0)) else (some (1))))
def f_X9_isSwing_b23 (v_this_told : Nat → Int32) (v_this_st : Nat → Int32) (x1 : Int32) (x2 : Int32) : Option (Int32) := f_X9_isSwing_b24 v_this_told v_this_st x1 x2 0
def f_X9_isSwing (v_this_told : Nat → Int32) (v_this_st : Nat → Int32) (x1 : Int32) (x2 : Int32) : Option (Int32) := (f_X9_has x1 x2).bind fun y1 => if y1 = 0 then ((f_X9_alive v_this_told v_this_st).bind fun y3 => if (x1 &&& (y3 ^^^ (-1))) = 0 then (f_X9_isSwing_b24 v_this_told v_this_st x1 x2 1) else (f_X9_isSwing_b23 v_this_told v_this_st x1 x2)) else (f_X9_isSwing_b23 v_this_told v_this_st x1 x2)
def w_X9_isSwing (cyI cyZ cyW : ClassId) (a_this : Nat) (a_this_told : Nat) (a_this_st : Nat) (a_this_text : Nat) (v_this_letters : Int32) (v_this_place : Int32) (v_this_token : Int32) (v_this_value : Int32) (v_this_begins : Int32) (a_this_read : Nat) (v_this_clauses : Int32) (a_this_ahead : Nat) (v_this_undoMany : Int32) (a_this_isKept : Nat) (a_this_kept : Nat) (v_this_fewestMany : Int32) (v_this_fewestSets : Int32) (v_this_fewestSet : Int32) (v_this_fewestMost : Int32) (a_this_aside : Nat) (a_this_seens : Nat) (v_this_seenMany : Int32) (v_this_told : Nat → Int32) (v_this_st : Nat → Int32) : va_W := [(a_this, .inr (9, [.ref a_this_told, .ref a_this_st, .ref a_this_text, .int v_this_letters, .int v_this_place, .int v_this_token, .int v_this_value, .int v_this_begins, .ref a_this_read, .int v_this_clauses, .ref a_this_ahead, .int v_this_undoMany, .ref a_this_isKept, .ref a_this_kept, .int v_this_fewestMany, .int v_this_fewestSets, .int v_this_fewestSet, .int v_this_fewestMost, .ref a_this_aside, .ref a_this_seens, .int v_this_seenMany])), (a_this_told, .inl (cyI, 37, .inl v_this_told)), (a_this_st, .inl (cyI, 15, .inl v_this_st))]
set_option maxHeartbeats 4000000 in
set_option maxRecDepth 100000 in
theorem c_X9_isSwing (l : Launch) (D : va_G) (cyI cyZ cyW : ClassId) (a_this : Nat) (a_this_told : Nat) (a_this_st : Nat) (a_this_text : Nat) (v_this_letters : Int32) (v_this_place : Int32) (v_this_token : Int32) (v_this_value : Int32) (v_this_begins : Int32) (a_this_read : Nat) (v_this_clauses : Int32) (a_this_ahead : Nat) (v_this_undoMany : Int32) (a_this_isKept : Nat) (a_this_kept : Nat) (v_this_fewestMany : Int32) (v_this_fewestSets : Int32) (v_this_fewestSet : Int32) (v_this_fewestMost : Int32) (a_this_aside : Nat) (a_this_seens : Nat) (v_this_seenMany : Int32) (v_this_told : Nat → Int32) (v_this_st : Nat → Int32) (x1 : Int32) (x2 : Int32) (res : Int32) (hf : f_X9_isSwing v_this_told v_this_st x1 x2 = some res) : ∀ sz, Met l yX9_isSwing wsX9_isSwing { frames := 3, cells := 0, slots := 0, locals := 68 } (PCx D (tyG cyI cyZ cyW) [.ref a_this, .int x1, .int x2] (w_X9_isSwing cyI cyZ cyW a_this a_this_told a_this_st a_this_text v_this_letters v_this_place v_this_token v_this_value v_this_begins a_this_read v_this_clauses a_this_ahead v_this_undoMany a_this_isKept a_this_kept v_this_fewestMany v_this_fewestSets v_this_fewestSet v_this_fewestMost a_this_aside a_this_seens v_this_seenMany v_this_told v_this_st) sz) (QI D (tyG cyI cyZ cyW) (w_X9_isSwing cyI cyZ cyW a_this a_this_told a_this_st a_this_text v_this_letters v_this_place v_this_token v_this_value v_this_begins a_this_read v_this_clauses a_this_ahead v_this_undoMany a_this_isKept a_this_kept v_this_fewestMany v_this_fewestSets v_this_fewestSet v_this_fewestMost a_this_aside a_this_seens v_this_seenMany v_this_told v_this_st) sz res (w_X9_isSwing cyI cyZ cyW a_this a_this_told a_this_st a_this_text v_this_letters v_this_place v_this_token v_this_value v_this_begins a_this_read v_this_clauses a_this_ahead v_this_undoMany a_this_isKept a_this_kept v_this_fewestMany v_this_fewestSets v_this_fewestSet v_this_fewestMost a_this_aside a_this_seens v_this_seenMany v_this_told v_this_st)) 0 0 (va_A (w_X9_isSwing cyI cyZ cyW a_this a_this_told a_this_st a_this_text v_this_letters v_this_place v_this_token v_this_value v_this_begins a_this_read v_this_clauses a_this_ahead v_this_undoMany a_this_isKept a_this_kept v_this_fewestMany v_this_fewestSets v_this_fewestSet v_this_fewestMost a_this_aside a_this_seens v_this_seenMany v_this_told v_this_st) sz) := by
  intro sz
  refine met_of (cc := cX9_isSwing) (maxL := 4) (ret := (some .boolean)) (lv0 := [(0, .ref a_this), (1, .int x1), (2, .int x2)]) (by decide) rfl ⟨(Nat.le_of_ble_eq_true rfl), rfl⟩ ?_
  intro p e s m below meth c C hr hlk hnm hsz
  subst hsz
  have C : CX p s m _ c 4 cX9_isSwing RX9 wsX9_isSwing D (tyG cyI cyZ cyW) _ := C
  obtain ⟨Z, hZ⟩ : ∃ Z : va_W → Nat → LV → List Value → Prop, Z = ST p l e { frames := 3, cells := 0, slots := 0, locals := 68 } s m [.ref a_this, .int x1, .int x2].toArray below meth c 4 D (va_A (w_X9_isSwing cyI cyZ cyW a_this a_this_told a_this_st a_this_text v_this_letters v_this_place v_this_token v_this_value v_this_begins a_this_read v_this_clauses a_this_ahead v_this_undoMany a_this_isKept a_this_kept v_this_fewestMany v_this_fewestSets v_this_fewestSet v_this_fewestMost a_this_aside a_this_seens v_this_seenMany v_this_told v_this_st) s.heap.size) (MQ below (QI D (tyG cyI cyZ cyW) (w_X9_isSwing cyI cyZ cyW a_this a_this_told a_this_st a_this_text v_this_letters v_this_place v_this_token v_this_value v_this_begins a_this_read v_this_clauses a_this_ahead v_this_undoMany a_this_isKept a_this_kept v_this_fewestMany v_this_fewestSets v_this_fewestSet v_this_fewestMost a_this_aside a_this_seens v_this_seenMany v_this_told v_this_st) s.heap.size res (w_X9_isSwing cyI cyZ cyW a_this a_this_told a_this_st a_this_text v_this_letters v_this_place v_this_token v_this_value v_this_begins a_this_read v_this_clauses a_this_ahead v_this_undoMany a_this_isKept a_this_kept v_this_fewestMany v_this_fewestSets v_this_fewestSet v_this_fewestMost a_this_aside a_this_seens v_this_seenMany v_this_told v_this_st)) [.ref a_this, .int x1, .int x2].toArray s 0 0 (va_A (w_X9_isSwing cyI cyZ cyW a_this a_this_told a_this_st a_this_text v_this_letters v_this_place v_this_token v_this_value v_this_begins a_this_read v_this_clauses a_this_ahead v_this_undoMany a_this_isKept a_this_kept v_this_fewestMany v_this_fewestSets v_this_fewestSet v_this_fewestMost a_this_aside a_this_seens v_this_seenMany v_this_told v_this_st) s.heap.size)) 0 0 := ⟨_, rfl⟩
  have hb_24 : ∀ (x1 : Int32) (x2 : Int32) (s0 : Int32), f_X9_isSwing_b24 v_this_told v_this_st x1 x2 s0 = some res → Z (w_X9_isSwing cyI cyZ cyW a_this a_this_told a_this_st a_this_text v_this_letters v_this_place v_this_token v_this_value v_this_begins a_this_read v_this_clauses a_this_ahead v_this_undoMany a_this_isKept a_this_kept v_this_fewestMany v_this_fewestSets v_this_fewestSet v_this_fewestMost a_this_aside a_this_seens v_this_seenMany v_this_told v_this_st) 24 [(0, .ref a_this), (1, .int x1), (2, .int x2)] [.int s0] := by
    subst hZ
    intro x1 x2 s0 hf
    refine r_istore_n (lv' := [(3, .int s0), (0, .ref a_this), (1, .int x1), (2, .int x2)]) C dX9_isSwing_24 rfl (by decide) rfl ?_
    refine r_iload_n C dX9_isSwing_25 rfl 0 rfl ?_
    refine r_if_eq C 65 dX9_isSwing_26 (by decide) hf (fun hf => ?_) (fun hf => ?_)
    · refine r_iconst C 0 dX9_isSwing_65 (by decide) ?_
      rw [← Option.some.inj hf]
      exact r_zret (r := 0) C hr hlk rfl dX9_isSwing_66
    · refine r_aload_n C dX9_isSwing_29 rfl 1 rfl ?_
      refine r_iload_n C dX9_isSwing_30 rfl 2 rfl ?_
      obtain ⟨y5, hy6, hf⟩ := bd_some hf
      refine r_roV_i (As := [.int x1]) (rest := []) C (c_X9_weights l D cyI cyZ cyW a_this a_this_told a_this_st a_this_text v_this_letters v_this_place v_this_token v_this_value v_this_begins a_this_read v_this_clauses a_this_ahead v_this_undoMany a_this_isKept a_this_kept v_this_fewestMany v_this_fewestSets v_this_fewestSet v_this_fewestMost a_this_aside a_this_seens v_this_seenMany v_this_st v_this_told x1 y5 hy6) gX9_isSwing_X9_weights rfl hyV_X9_weights ⟨rfl, rfl, (Nat.le_of_ble_eq_true rfl), (Nat.le_of_ble_eq_true rfl)⟩ rfl 0 rfl rfl [0, 2, 1] rfl rfl rfl (Nat.le_of_ble_eq_true rfl) ⟨Nat.zero_le _, Nat.zero_le _⟩ dX9_isSwing_31 ?_
      refine r_aload_n C dX9_isSwing_34 rfl 1 rfl ?_
      refine r_get C in_X9_isSwing_X9 0 rfl rfl 0 (by decide) lk_X9_isSwing_1 rfl rfl dX9_isSwing_35 ?_
      refine r_iconst C 1 dX9_isSwing_38 (by decide) ?_
      refine r_iald_k C 1 1 0 rfl rfl (kk_ 1 37 (by decide) (by decide)) dX9_isSwing_39 ?_
      refine r_icmp_ge C 65 dX9_isSwing_40 (by decide) hf (fun hf => ?_) (fun hf => ?_)
      · refine r_iconst C 0 dX9_isSwing_65 (by decide) ?_
        rw [← Option.some.inj hf]
        exact r_zret (r := 0) C hr hlk rfl dX9_isSwing_66
      · refine r_aload_n C dX9_isSwing_43 rfl 1 rfl ?_
        refine r_iload_n C dX9_isSwing_44 rfl 2 rfl ?_
        refine r_iconst C 1 dX9_isSwing_45 (by decide) ?_
        refine r_iload_n C dX9_isSwing_46 rfl 3 rfl ?_
        refine r_ishl C dX9_isSwing_47 ?_
        refine r_ior C dX9_isSwing_48 ?_
        obtain ⟨y7, hy8, hf⟩ := bd_some hf
        refine r_roV_i (As := [.int (x1 ||| ((1 : Int32) <<< (x2 &&& 31)))]) (rest := []) C (c_X9_weights l D cyI cyZ cyW a_this a_this_told a_this_st a_this_text v_this_letters v_this_place v_this_token v_this_value v_this_begins a_this_read v_this_clauses a_this_ahead v_this_undoMany a_this_isKept a_this_kept v_this_fewestMany v_this_fewestSets v_this_fewestSet v_this_fewestMost a_this_aside a_this_seens v_this_seenMany v_this_st v_this_told (x1 ||| ((1 : Int32) <<< (x2 &&& 31))) y7 hy8) gX9_isSwing_X9_weights rfl hyV_X9_weights ⟨rfl, rfl, (Nat.le_of_ble_eq_true rfl), (Nat.le_of_ble_eq_true rfl)⟩ rfl 0 rfl rfl [0, 2, 1] rfl rfl rfl (Nat.le_of_ble_eq_true rfl) ⟨Nat.zero_le _, Nat.zero_le _⟩ dX9_isSwing_49 ?_
        refine r_aload_n C dX9_isSwing_52 rfl 1 rfl ?_
        refine r_get C in_X9_isSwing_X9 0 rfl rfl 0 (by decide) lk_X9_isSwing_1 rfl rfl dX9_isSwing_53 ?_
        refine r_iconst C 1 dX9_isSwing_56 (by decide) ?_
        refine r_iald_k C 1 1 0 rfl rfl (kk_ 1 37 (by decide) (by decide)) dX9_isSwing_57 ?_
        refine r_icmp_lt C 65 dX9_isSwing_58 (by decide) hf (fun hf => ?_) (fun hf => ?_)
        · refine r_iconst C 0 dX9_isSwing_65 (by decide) ?_
          rw [← Option.some.inj hf]
          exact r_zret (r := 0) C hr hlk rfl dX9_isSwing_66
        · refine r_iconst C 1 dX9_isSwing_61 (by decide) ?_
          refine r_goto C 66 dX9_isSwing_62 (by decide) ?_
          rw [← Option.some.inj hf]
          exact r_zret (r := 1) C hr hlk rfl dX9_isSwing_66
  have hb_23 : ∀ (x1 : Int32) (x2 : Int32), f_X9_isSwing_b23 v_this_told v_this_st x1 x2 = some res → Z (w_X9_isSwing cyI cyZ cyW a_this a_this_told a_this_st a_this_text v_this_letters v_this_place v_this_token v_this_value v_this_begins a_this_read v_this_clauses a_this_ahead v_this_undoMany a_this_isKept a_this_kept v_this_fewestMany v_this_fewestSets v_this_fewestSet v_this_fewestMost a_this_aside a_this_seens v_this_seenMany v_this_told v_this_st) 23 [(0, .ref a_this), (1, .int x1), (2, .int x2)] [] := by
    subst hZ
    intro x1 x2 hf
    refine r_iconst C 0 dX9_isSwing_23 (by decide) ?_
    exact ST_lv [0, 1, 2] rfl (hb_24 x1 x2 0 hf)
  subst hZ
  refine r_iload_n C dX9_isSwing_0 rfl 1 rfl ?_
  refine r_iload_n C dX9_isSwing_1 rfl 2 rfl ?_
  obtain ⟨y1, hy2, hf⟩ := bd_some hf
  refine r_roS_i (As := [.int x1, .int x2]) (rest := []) C (c_X9_has l D cyI cyZ cyW x1 x2 y1 hy2) gX9_isSwing_X9_has rfl hyS_X9_has ⟨rfl, rfl, (Nat.le_of_ble_eq_true rfl), (Nat.le_of_ble_eq_true rfl)⟩ rfl [] rfl rfl rfl (Nat.le_of_ble_eq_true rfl) ⟨Nat.zero_le _, Nat.zero_le _⟩ dX9_isSwing_2 ?_
  refine r_if_ne C 23 dX9_isSwing_5 (by decide) hf (fun hf => ?_) (fun hf => ?_)
  · exact ST_lv [0, 1, 2] rfl (hb_23 x1 x2 hf)
  · refine r_iload_n C dX9_isSwing_8 rfl 1 rfl ?_
    refine r_aload_n C dX9_isSwing_9 rfl 0 rfl ?_
    obtain ⟨y3, hy4, hf⟩ := bd_some hf
    refine r_roV_i (As := []) (rest := [.int x1]) C (c_X9_alive l D cyI cyZ cyW a_this a_this_told a_this_st a_this_text v_this_letters v_this_place v_this_token v_this_value v_this_begins a_this_read v_this_clauses a_this_ahead v_this_undoMany a_this_isKept a_this_kept v_this_fewestMany v_this_fewestSets v_this_fewestSet v_this_fewestMost a_this_aside a_this_seens v_this_seenMany v_this_told v_this_st y3 hy4) gX9_isSwing_X9_alive rfl hyV_X9_alive ⟨rfl, rfl, (Nat.le_of_ble_eq_true rfl), (Nat.le_of_ble_eq_true rfl)⟩ rfl 0 rfl rfl [0, 1, 2] rfl rfl rfl (Nat.le_of_ble_eq_true rfl) ⟨Nat.zero_le _, Nat.zero_le _⟩ dX9_isSwing_10 ?_
    refine r_iconst C (-1) dX9_isSwing_13 (by decide) ?_
    refine r_ixor C dX9_isSwing_14 ?_
    refine r_iand C dX9_isSwing_15 ?_
    refine r_if_ne C 23 dX9_isSwing_16 (by decide) hf (fun hf => ?_) (fun hf => ?_)
    · exact ST_lv [0, 1, 2] rfl (hb_23 x1 x2 hf)
    · refine r_iconst C 1 dX9_isSwing_19 (by decide) ?_
      refine r_goto C 24 dX9_isSwing_20 (by decide) ?_
      exact ST_lv [0, 1, 2] rfl (hb_24 x1 x2 1 hf)

theorem lk_X9_swings_1 : Cond.fieldLink RX9 7 "ParishCoatModel" "told" "[I" ∈ wsX9_swings := List.mem_of_getElem? (i := 1) rfl
theorem in_X9_swings_X9 : ∀ w ∈ u_ws RX9 TX9 21, w ∈ wsX9_swings := fun _ h => List.mem_cons_of_mem _ (List.mem_append_right _ h)
theorem hyV_X9_isSwing : yX9_isSwing.cls = RX9 ∧ yX9_isSwing.cls ≠ "java/lang/invoke/MethodHandle" ∧ yX9_isSwing.cls ≠ "java/lang/invoke/VarHandle" ∧ (parseMethodDescriptor yX9_isSwing.desc).map (fun d => d.parameters.length) = some 2 := by decide +kernel
theorem hyS_X9_isSwing : yX9_isSwing.cls ≠ "java/lang/invoke/MethodHandle" ∧ yX9_isSwing.cls ≠ "java/lang/invoke/VarHandle" ∧ (parseMethodDescriptor yX9_isSwing.desc).map (fun d => d.parameters.length) = some 2 := by decide +kernel
def f_X9_swings_b53 (v_this_told : Nat → Int32) (v_this_st : Nat → Int32) (k_26 : Int32 → Int32 → Int32 → Option (Int32)) (x1 : Int32) (x3 : Int32) (s0 : Int32) (s1 : Int32) : Option (Int32) := k_26 x1 (s1 + s0) (x3 + 1)
def f_X9_swings_s26 (v_this_told : Nat → Int32) (v_this_st : Nat → Int32) (k_26 : Int32 → Int32 → Int32 → Option (Int32)) (x1 : Int32) (x2 : Int32) (x3 : Int32) : Option (Int32) := if ((1 : Int32) <<< ((v_this_told 0) &&& 31)) ≤ x3 then (some (x2)) else ((f_X9_isSwing v_this_told v_this_st x3 x1).bind fun y5 => if y5 = 0 then (f_X9_swings_b53 v_this_told v_this_st k_26 x1 x3 0 x2) else (f_X9_swings_b53 v_this_told v_this_st k_26 x1 x3 1 x2))
def f_X9_swings_b26 (v_this_told : Nat → Int32) (v_this_st : Nat → Int32) (n : Nat) : Int32 → Int32 → Int32 → Option (Int32) := it_ (f_X9_swings_s26 v_this_told v_this_st ) (fun _ _ _ => none) n
def f_X9_swings (v_this_told : Nat → Int32) (v_this_st : Nat → Int32) (x1 : Int32) : Option (Int32) := (f_X9_isFamily v_this_told x1).bind fun y1 => if y1 = 0 then (some ((-2))) else ((f_X9_isFrozen v_this_st x1).bind fun y3 => if y3 = 0 then (f_X9_swings_b26 v_this_told v_this_st 5000 x1 0 0) else (some ((-4))))
def w_X9_swings (cyI cyZ cyW : ClassId) (a_this : Nat) (a_this_told : Nat) (a_this_st : Nat) (a_this_text : Nat) (v_this_letters : Int32) (v_this_place : Int32) (v_this_token : Int32) (v_this_value : Int32) (v_this_begins : Int32) (a_this_read : Nat) (v_this_clauses : Int32) (a_this_ahead : Nat) (v_this_undoMany : Int32) (a_this_isKept : Nat) (a_this_kept : Nat) (v_this_fewestMany : Int32) (v_this_fewestSets : Int32) (v_this_fewestSet : Int32) (v_this_fewestMost : Int32) (a_this_aside : Nat) (a_this_seens : Nat) (v_this_seenMany : Int32) (v_this_told : Nat → Int32) (v_this_st : Nat → Int32) : va_W := [(a_this, .inr (9, [.ref a_this_told, .ref a_this_st, .ref a_this_text, .int v_this_letters, .int v_this_place, .int v_this_token, .int v_this_value, .int v_this_begins, .ref a_this_read, .int v_this_clauses, .ref a_this_ahead, .int v_this_undoMany, .ref a_this_isKept, .ref a_this_kept, .int v_this_fewestMany, .int v_this_fewestSets, .int v_this_fewestSet, .int v_this_fewestMost, .ref a_this_aside, .ref a_this_seens, .int v_this_seenMany])), (a_this_told, .inl (cyI, 37, .inl v_this_told)), (a_this_st, .inl (cyI, 15, .inl v_this_st))]
set_option maxHeartbeats 4000000 in
set_option maxRecDepth 100000 in
theorem c_X9_swings (l : Launch) (D : va_G) (cyI cyZ cyW : ClassId) (a_this : Nat) (a_this_told : Nat) (a_this_st : Nat) (a_this_text : Nat) (v_this_letters : Int32) (v_this_place : Int32) (v_this_token : Int32) (v_this_value : Int32) (v_this_begins : Int32) (a_this_read : Nat) (v_this_clauses : Int32) (a_this_ahead : Nat) (v_this_undoMany : Int32) (a_this_isKept : Nat) (a_this_kept : Nat) (v_this_fewestMany : Int32) (v_this_fewestSets : Int32) (v_this_fewestSet : Int32) (v_this_fewestMost : Int32) (a_this_aside : Nat) (a_this_seens : Nat) (v_this_seenMany : Int32) (v_this_told : Nat → Int32) (v_this_st : Nat → Int32) (x1 : Int32) (res : Int32) (hf : f_X9_swings v_this_told v_this_st x1 = some res) : ∀ sz, Met l yX9_swings wsX9_swings { frames := 4, cells := 0, slots := 0, locals := 91 } (PCx D (tyG cyI cyZ cyW) [.ref a_this, .int x1] (w_X9_swings cyI cyZ cyW a_this a_this_told a_this_st a_this_text v_this_letters v_this_place v_this_token v_this_value v_this_begins a_this_read v_this_clauses a_this_ahead v_this_undoMany a_this_isKept a_this_kept v_this_fewestMany v_this_fewestSets v_this_fewestSet v_this_fewestMost a_this_aside a_this_seens v_this_seenMany v_this_told v_this_st) sz) (QI D (tyG cyI cyZ cyW) (w_X9_swings cyI cyZ cyW a_this a_this_told a_this_st a_this_text v_this_letters v_this_place v_this_token v_this_value v_this_begins a_this_read v_this_clauses a_this_ahead v_this_undoMany a_this_isKept a_this_kept v_this_fewestMany v_this_fewestSets v_this_fewestSet v_this_fewestMost a_this_aside a_this_seens v_this_seenMany v_this_told v_this_st) sz res (w_X9_swings cyI cyZ cyW a_this a_this_told a_this_st a_this_text v_this_letters v_this_place v_this_token v_this_value v_this_begins a_this_read v_this_clauses a_this_ahead v_this_undoMany a_this_isKept a_this_kept v_this_fewestMany v_this_fewestSets v_this_fewestSet v_this_fewestMost a_this_aside a_this_seens v_this_seenMany v_this_told v_this_st)) 0 0 (va_A (w_X9_swings cyI cyZ cyW a_this a_this_told a_this_st a_this_text v_this_letters v_this_place v_this_token v_this_value v_this_begins a_this_read v_this_clauses a_this_ahead v_this_undoMany a_this_isKept a_this_kept v_this_fewestMany v_this_fewestSets v_this_fewestSet v_this_fewestMost a_this_aside a_this_seens v_this_seenMany v_this_told v_this_st) sz) := by
  intro sz
  refine met_of (cc := cX9_swings) (maxL := 4) (ret := (some .int)) (lv0 := [(0, .ref a_this), (1, .int x1)]) (by decide) rfl ⟨(Nat.le_of_ble_eq_true rfl), rfl⟩ ?_
  intro p e s m below meth c C hr hlk hnm hsz
  subst hsz
  have C : CX p s m _ c 4 cX9_swings RX9 wsX9_swings D (tyG cyI cyZ cyW) _ := C
  obtain ⟨Z, hZ⟩ : ∃ Z : va_W → Nat → LV → List Value → Prop, Z = ST p l e { frames := 4, cells := 0, slots := 0, locals := 91 } s m [.ref a_this, .int x1].toArray below meth c 4 D (va_A (w_X9_swings cyI cyZ cyW a_this a_this_told a_this_st a_this_text v_this_letters v_this_place v_this_token v_this_value v_this_begins a_this_read v_this_clauses a_this_ahead v_this_undoMany a_this_isKept a_this_kept v_this_fewestMany v_this_fewestSets v_this_fewestSet v_this_fewestMost a_this_aside a_this_seens v_this_seenMany v_this_told v_this_st) s.heap.size) (MQ below (QI D (tyG cyI cyZ cyW) (w_X9_swings cyI cyZ cyW a_this a_this_told a_this_st a_this_text v_this_letters v_this_place v_this_token v_this_value v_this_begins a_this_read v_this_clauses a_this_ahead v_this_undoMany a_this_isKept a_this_kept v_this_fewestMany v_this_fewestSets v_this_fewestSet v_this_fewestMost a_this_aside a_this_seens v_this_seenMany v_this_told v_this_st) s.heap.size res (w_X9_swings cyI cyZ cyW a_this a_this_told a_this_st a_this_text v_this_letters v_this_place v_this_token v_this_value v_this_begins a_this_read v_this_clauses a_this_ahead v_this_undoMany a_this_isKept a_this_kept v_this_fewestMany v_this_fewestSets v_this_fewestSet v_this_fewestMost a_this_aside a_this_seens v_this_seenMany v_this_told v_this_st)) [.ref a_this, .int x1].toArray s 0 0 (va_A (w_X9_swings cyI cyZ cyW a_this a_this_told a_this_st a_this_text v_this_letters v_this_place v_this_token v_this_value v_this_begins a_this_read v_this_clauses a_this_ahead v_this_undoMany a_this_isKept a_this_kept v_this_fewestMany v_this_fewestSets v_this_fewestSet v_this_fewestMost a_this_aside a_this_seens v_this_seenMany v_this_told v_this_st) s.heap.size)) 0 0 := ⟨_, rfl⟩
  have hb_53 : ∀ (k_26 : Int32 → Int32 → Int32 → Option (Int32)), (∀ (x1 : Int32) (x2 : Int32) (x3 : Int32), k_26 x1 x2 x3 = some res → Z (w_X9_swings cyI cyZ cyW a_this a_this_told a_this_st a_this_text v_this_letters v_this_place v_this_token v_this_value v_this_begins a_this_read v_this_clauses a_this_ahead v_this_undoMany a_this_isKept a_this_kept v_this_fewestMany v_this_fewestSets v_this_fewestSet v_this_fewestMost a_this_aside a_this_seens v_this_seenMany v_this_told v_this_st) 26 [(0, .ref a_this), (1, .int x1), (2, .int x2), (3, .int x3)] []) → ∀ (x1 : Int32) (x3 : Int32) (s0 : Int32) (s1 : Int32), f_X9_swings_b53 v_this_told v_this_st k_26 x1 x3 s0 s1 = some res → Z (w_X9_swings cyI cyZ cyW a_this a_this_told a_this_st a_this_text v_this_letters v_this_place v_this_token v_this_value v_this_begins a_this_read v_this_clauses a_this_ahead v_this_undoMany a_this_isKept a_this_kept v_this_fewestMany v_this_fewestSets v_this_fewestSet v_this_fewestMost a_this_aside a_this_seens v_this_seenMany v_this_told v_this_st) 53 [(0, .ref a_this), (1, .int x1), (3, .int x3)] [.int s0, .int s1] := by
    subst hZ
    intro k_26 hk_26 x1 x3 s0 s1 hf
    refine r_iadd C dX9_swings_53 ?_
    refine r_istore_n (lv' := [(2, .int (s1 + s0)), (0, .ref a_this), (1, .int x1), (3, .int x3)]) C dX9_swings_54 rfl (by decide) rfl ?_
    refine r_iinc (v := 1) (k := 3) (lv' := [(3, .int (x3 + 1)), (2, .int (s1 + s0)), (0, .ref a_this), (1, .int x1)]) C dX9_swings_55 rfl (by decide) (by decide) rfl ?_
    refine r_goto C 26 dX9_swings_58 (by decide) ?_
    exact ST_lv [2, 3, 1, 0] rfl (hk_26 x1 (s1 + s0) (x3 + 1) hf)
  have hs_26 : ∀ (k_26 : Int32 → Int32 → Int32 → Option (Int32)), (∀ (x1 : Int32) (x2 : Int32) (x3 : Int32), k_26 x1 x2 x3 = some res → Z (w_X9_swings cyI cyZ cyW a_this a_this_told a_this_st a_this_text v_this_letters v_this_place v_this_token v_this_value v_this_begins a_this_read v_this_clauses a_this_ahead v_this_undoMany a_this_isKept a_this_kept v_this_fewestMany v_this_fewestSets v_this_fewestSet v_this_fewestMost a_this_aside a_this_seens v_this_seenMany v_this_told v_this_st) 26 [(0, .ref a_this), (1, .int x1), (2, .int x2), (3, .int x3)] []) → ∀ (x1 : Int32) (x2 : Int32) (x3 : Int32), f_X9_swings_s26 v_this_told v_this_st k_26 x1 x2 x3 = some res → Z (w_X9_swings cyI cyZ cyW a_this a_this_told a_this_st a_this_text v_this_letters v_this_place v_this_token v_this_value v_this_begins a_this_read v_this_clauses a_this_ahead v_this_undoMany a_this_isKept a_this_kept v_this_fewestMany v_this_fewestSets v_this_fewestSet v_this_fewestMost a_this_aside a_this_seens v_this_seenMany v_this_told v_this_st) 26 [(0, .ref a_this), (1, .int x1), (2, .int x2), (3, .int x3)] [] := by
    subst hZ
    intro k_26 hk_26 x1 x2 x3 hf
    refine r_iload_n C dX9_swings_26 rfl 3 rfl ?_
    refine r_iconst C 1 dX9_swings_27 (by decide) ?_
    refine r_aload_n C dX9_swings_28 rfl 0 rfl ?_
    refine r_get C in_X9_swings_X9 0 rfl rfl 0 (by decide) lk_X9_swings_1 rfl rfl dX9_swings_29 ?_
    refine r_iconst C 0 dX9_swings_32 (by decide) ?_
    refine r_iald_k C 0 1 0 rfl rfl (kk_ 0 37 (by decide) (by decide)) dX9_swings_33 ?_
    refine r_ishl C dX9_swings_34 ?_
    refine r_icmp_ge C 61 dX9_swings_35 (by decide) hf (fun hf => ?_) (fun hf => ?_)
    · refine r_iload_n C dX9_swings_61 rfl 2 rfl ?_
      rw [← Option.some.inj hf]
      exact r_iret C hr hlk dX9_swings_62
    · refine r_iload_n C dX9_swings_38 rfl 2 rfl ?_
      refine r_aload_n C dX9_swings_39 rfl 0 rfl ?_
      refine r_iload_n C dX9_swings_40 rfl 3 rfl ?_
      refine r_iload_n C dX9_swings_41 rfl 1 rfl ?_
      obtain ⟨y5, hy6, hf⟩ := bd_some hf
      refine r_roV_i (As := [.int x3, .int x1]) (rest := [.int x2]) C (c_X9_isSwing l D cyI cyZ cyW a_this a_this_told a_this_st a_this_text v_this_letters v_this_place v_this_token v_this_value v_this_begins a_this_read v_this_clauses a_this_ahead v_this_undoMany a_this_isKept a_this_kept v_this_fewestMany v_this_fewestSets v_this_fewestSet v_this_fewestMost a_this_aside a_this_seens v_this_seenMany v_this_told v_this_st x3 x1 y5 hy6) gX9_swings_X9_isSwing rfl hyV_X9_isSwing ⟨rfl, rfl, (Nat.le_of_ble_eq_true rfl), (Nat.le_of_ble_eq_true rfl)⟩ rfl 0 rfl rfl [0, 1, 2] rfl rfl rfl (Nat.le_of_ble_eq_true rfl) ⟨Nat.zero_le _, Nat.zero_le _⟩ dX9_swings_42 ?_
      refine r_if_eq C 52 dX9_swings_45 (by decide) hf (fun hf => ?_) (fun hf => ?_)
      · refine r_iconst C 0 dX9_swings_52 (by decide) ?_
        exact ST_lv [0, 1, 3] rfl (hb_53 k_26 hk_26 x1 x3 0 x2 hf)
      · refine r_iconst C 1 dX9_swings_48 (by decide) ?_
        refine r_goto C 53 dX9_swings_49 (by decide) ?_
        exact ST_lv [0, 1, 3] rfl (hb_53 k_26 hk_26 x1 x3 1 x2 hf)
  have hb_26 : ∀ (n : Nat) (x1 : Int32) (x2 : Int32) (x3 : Int32), f_X9_swings_b26 v_this_told v_this_st n x1 x2 x3 = some res → Z (w_X9_swings cyI cyZ cyW a_this a_this_told a_this_st a_this_text v_this_letters v_this_place v_this_token v_this_value v_this_begins a_this_read v_this_clauses a_this_ahead v_this_undoMany a_this_isKept a_this_kept v_this_fewestMany v_this_fewestSets v_this_fewestSet v_this_fewestMost a_this_aside a_this_seens v_this_seenMany v_this_told v_this_st) 26 [(0, .ref a_this), (1, .int x1), (2, .int x2), (3, .int x3)] [] := by
    intro  n
    induction n with
    | zero => intro x1 x2 x3 hf; exact nn_ hf
    | succ n ih => exact fun x1 x2 x3 hf => hs_26 _ ih x1 x2 x3 hf
  subst hZ
  refine r_aload_n C dX9_swings_0 rfl 0 rfl ?_
  refine r_iload_n C dX9_swings_1 rfl 1 rfl ?_
  obtain ⟨y1, hy2, hf⟩ := bd_some hf
  refine r_roV_i (As := [.int x1]) (rest := []) C (c_X9_isFamily l D cyI cyZ cyW a_this a_this_told a_this_st a_this_text v_this_letters v_this_place v_this_token v_this_value v_this_begins a_this_read v_this_clauses a_this_ahead v_this_undoMany a_this_isKept a_this_kept v_this_fewestMany v_this_fewestSets v_this_fewestSet v_this_fewestMost a_this_aside a_this_seens v_this_seenMany v_this_told x1 y1 hy2) gX9_swings_X9_isFamily rfl hyV_X9_isFamily ⟨rfl, rfl, (Nat.le_of_ble_eq_true rfl), (Nat.le_of_ble_eq_true rfl)⟩ rfl 0 rfl rfl [0, 1] rfl rfl rfl (Nat.le_of_ble_eq_true rfl) ⟨Nat.zero_le _, Nat.zero_le _⟩ dX9_swings_2 ?_
  refine r_if_ne C 11 dX9_swings_5 (by decide) hf (fun hf => ?_) (fun hf => ?_)
  · refine r_aload_n C dX9_swings_11 rfl 0 rfl ?_
    refine r_iload_n C dX9_swings_12 rfl 1 rfl ?_
    obtain ⟨y3, hy4, hf⟩ := bd_some hf
    refine r_roV_i (As := [.int x1]) (rest := []) C (c_X9_isFrozen l D cyI cyZ cyW a_this a_this_told a_this_st a_this_text v_this_letters v_this_place v_this_token v_this_value v_this_begins a_this_read v_this_clauses a_this_ahead v_this_undoMany a_this_isKept a_this_kept v_this_fewestMany v_this_fewestSets v_this_fewestSet v_this_fewestMost a_this_aside a_this_seens v_this_seenMany v_this_st x1 y3 hy4) gX9_swings_X9_isFrozen rfl hyV_X9_isFrozen ⟨rfl, rfl, (Nat.le_of_ble_eq_true rfl), (Nat.le_of_ble_eq_true rfl)⟩ rfl 0 rfl rfl [0, 2] rfl rfl rfl (Nat.le_of_ble_eq_true rfl) ⟨Nat.zero_le _, Nat.zero_le _⟩ dX9_swings_13 ?_
    refine r_if_eq C 22 dX9_swings_16 (by decide) hf (fun hf => ?_) (fun hf => ?_)
    · refine r_iconst C 0 dX9_swings_22 (by decide) ?_
      refine r_istore_n (lv' := [(2, .int 0), (0, .ref a_this), (1, .int x1)]) C dX9_swings_23 rfl (by decide) rfl ?_
      refine r_iconst C 0 dX9_swings_24 (by decide) ?_
      refine r_istore_n (lv' := [(3, .int 0), (2, .int 0), (0, .ref a_this), (1, .int x1)]) C dX9_swings_25 rfl (by decide) rfl ?_
      exact ST_lv [2, 3, 1, 0] rfl (hb_26 5000 x1 0 0 hf)
    · refine r_bipush C (-4) dX9_swings_19 (by decide) ?_
      rw [← Option.some.inj hf]
      exact r_iret C hr hlk dX9_swings_21
  · refine r_bipush C (-2) dX9_swings_8 (by decide) ?_
    rw [← Option.some.inj hf]
    exact r_iret C hr hlk dX9_swings_10

def f_X9_factorial_s4 (k_4 : Int32 → Int32 → Int32 → Option (Int32)) (x0 : Int32) (x1 : Int32) (x2 : Int32) : Option (Int32) := if x0 < x2 then (some (x1)) else (k_4 x0 (x1 * x2) (x2 + 1))
def f_X9_factorial_b4 (n : Nat) : Int32 → Int32 → Int32 → Option (Int32) := it_ (f_X9_factorial_s4 ) (fun _ _ _ => none) n
def f_X9_factorial (x0 : Int32) : Option (Int32) := f_X9_factorial_b4 5000 x0 1 2
def w_X9_factorial (cyI cyZ cyW : ClassId) : va_W := []
set_option maxHeartbeats 4000000 in
set_option maxRecDepth 100000 in
theorem c_X9_factorial (l : Launch) (D : va_G) (cyI cyZ cyW : ClassId) (x0 : Int32) (res : Int32) (hf : f_X9_factorial x0 = some res) : ∀ sz, Met l yX9_factorial wsX9_factorial { frames := 0, cells := 0, slots := 0, locals := 0 } (PCx D (tyG cyI cyZ cyW) [.int x0] [] sz) (QI D (tyG cyI cyZ cyW) [] sz res []) 0 0 (va_A [] sz) := by
  intro sz
  refine met_of (cc := cX9_factorial) (maxL := 3) (ret := (some .int)) (lv0 := [(0, .int x0)]) (by decide) rfl ⟨(Nat.le_of_ble_eq_true rfl), rfl⟩ ?_
  intro p e s m below meth c C hr hlk hnm hsz
  subst hsz
  have C : CX p s m _ c 3 cX9_factorial RX9 wsX9_factorial D (tyG cyI cyZ cyW) _ := C
  obtain ⟨Z, hZ⟩ : ∃ Z : va_W → Nat → LV → List Value → Prop, Z = ST p l e { frames := 0, cells := 0, slots := 0, locals := 0 } s m [.int x0].toArray below meth c 3 D (va_A [] s.heap.size) (MQ below (QI D (tyG cyI cyZ cyW) [] s.heap.size res []) [.int x0].toArray s 0 0 (va_A [] s.heap.size)) 0 0 := ⟨_, rfl⟩
  have hs_4 : ∀ (k_4 : Int32 → Int32 → Int32 → Option (Int32)), (∀ (x0 : Int32) (x1 : Int32) (x2 : Int32), k_4 x0 x1 x2 = some res → Z [] 4 [(0, .int x0), (1, .int x1), (2, .int x2)] []) → ∀ (x0 : Int32) (x1 : Int32) (x2 : Int32), f_X9_factorial_s4 k_4 x0 x1 x2 = some res → Z [] 4 [(0, .int x0), (1, .int x1), (2, .int x2)] [] := by
    subst hZ
    intro k_4 hk_4 x0 x1 x2 hf
    refine r_iload_n C dX9_factorial_4 rfl 2 rfl ?_
    refine r_iload_n C dX9_factorial_5 rfl 0 rfl ?_
    refine r_icmp_gt C 19 dX9_factorial_6 (by decide) hf (fun hf => ?_) (fun hf => ?_)
    · refine r_iload_n C dX9_factorial_19 rfl 1 rfl ?_
      rw [← Option.some.inj hf]
      exact r_iret C hr hlk dX9_factorial_20
    · refine r_iload_n C dX9_factorial_9 rfl 1 rfl ?_
      refine r_iload_n C dX9_factorial_10 rfl 2 rfl ?_
      refine r_imul C dX9_factorial_11 ?_
      refine r_istore_n (lv' := [(1, .int (x1 * x2)), (0, .int x0), (2, .int x2)]) C dX9_factorial_12 rfl (by decide) rfl ?_
      refine r_iinc (v := 1) (k := 2) (lv' := [(2, .int (x2 + 1)), (1, .int (x1 * x2)), (0, .int x0)]) C dX9_factorial_13 rfl (by decide) (by decide) rfl ?_
      refine r_goto C 4 dX9_factorial_16 (by decide) ?_
      exact ST_lv [2, 1, 0] rfl (hk_4 x0 (x1 * x2) (x2 + 1) hf)
  have hb_4 : ∀ (n : Nat) (x0 : Int32) (x1 : Int32) (x2 : Int32), f_X9_factorial_b4 n x0 x1 x2 = some res → Z [] 4 [(0, .int x0), (1, .int x1), (2, .int x2)] [] := by
    intro  n
    induction n with
    | zero => intro x0 x1 x2 hf; exact nn_ hf
    | succ n ih => exact fun x0 x1 x2 hf => hs_4 _ ih x0 x1 x2 hf
  subst hZ
  refine r_iconst C 1 dX9_factorial_0 (by decide) ?_
  refine r_istore_n (lv' := [(1, .int 1), (0, .int x0)]) C dX9_factorial_1 rfl (by decide) rfl ?_
  refine r_iconst C 2 dX9_factorial_2 (by decide) ?_
  refine r_istore_n (lv' := [(2, .int 2), (1, .int 1), (0, .int x0)]) C dX9_factorial_3 rfl (by decide) rfl ?_
  exact ST_lv [2, 1, 0] rfl (hb_4 5000 x0 1 2 hf)

def f_X9_common_s4 (k_4 : Int32 → Int32 → Option (Int32)) (x2 : Int32) (x3 : Int32) : Option (Int32) := if x3 = 0 then (some (x2)) else (nz_ x3 (k_4 x3 (x2 - x2 / x3 * x3)))
def f_X9_common_b4 (n : Nat) : Int32 → Int32 → Option (Int32) := it_ (f_X9_common_s4 ) (fun _ _ => none) n
def f_X9_common (x0 : Int32) (x1 : Int32) : Option (Int32) := f_X9_common_b4 5000 x0 x1
def w_X9_common (cyI cyZ cyW : ClassId) : va_W := []
set_option maxHeartbeats 4000000 in
set_option maxRecDepth 100000 in
theorem c_X9_common (l : Launch) (D : va_G) (cyI cyZ cyW : ClassId) (x0 : Int32) (x1 : Int32) (res : Int32) (hf : f_X9_common x0 x1 = some res) : ∀ sz, Met l yX9_common wsX9_common { frames := 0, cells := 0, slots := 0, locals := 0 } (PCx D (tyG cyI cyZ cyW) [.int x0, .int x1] [] sz) (QI D (tyG cyI cyZ cyW) [] sz res []) 0 0 (va_A [] sz) := by
  intro sz
  refine met_of (cc := cX9_common) (maxL := 5) (ret := (some .int)) (lv0 := [(0, .int x0), (1, .int x1)]) (by decide) rfl ⟨(Nat.le_of_ble_eq_true rfl), rfl⟩ ?_
  intro p e s m below meth c C hr hlk hnm hsz
  subst hsz
  have C : CX p s m _ c 5 cX9_common RX9 wsX9_common D (tyG cyI cyZ cyW) _ := C
  obtain ⟨Z, hZ⟩ : ∃ Z : va_W → Nat → LV → List Value → Prop, Z = ST p l e { frames := 0, cells := 0, slots := 0, locals := 0 } s m [.int x0, .int x1].toArray below meth c 5 D (va_A [] s.heap.size) (MQ below (QI D (tyG cyI cyZ cyW) [] s.heap.size res []) [.int x0, .int x1].toArray s 0 0 (va_A [] s.heap.size)) 0 0 := ⟨_, rfl⟩
  have hs_4 : ∀ (k_4 : Int32 → Int32 → Option (Int32)), (∀ (x2 : Int32) (x3 : Int32), k_4 x2 x3 = some res → Z [] 4 [(2, .int x2), (3, .int x3)] []) → ∀ (x2 : Int32) (x3 : Int32), f_X9_common_s4 k_4 x2 x3 = some res → Z [] 4 [(2, .int x2), (3, .int x3)] [] := by
    subst hZ
    intro k_4 hk_4 x2 x3 hf
    refine r_iload_n C dX9_common_4 rfl 1 rfl ?_
    refine r_if_eq C 21 dX9_common_5 (by decide) hf (fun hf => ?_) (fun hf => ?_)
    · refine r_iload_n C dX9_common_21 rfl 0 rfl ?_
      rw [← Option.some.inj hf]
      exact r_iret C hr hlk dX9_common_22
    · refine r_iload_n C dX9_common_8 rfl 0 rfl ?_
      refine r_iload_n C dX9_common_9 rfl 1 rfl ?_
      obtain ⟨hz1, hf⟩ := nz_some hf
      refine r_irem C dX9_common_10 hz1 ?_
      refine r_istore (lv' := [(4, .int (x2 - x2 / x3 * x3)), (2, .int x2), (3, .int x3)]) C dX9_common_11 (by decide) rfl ?_
      refine r_iload_n C dX9_common_13 rfl 2 rfl ?_
      refine r_istore_n (lv' := [(2, .int x3), (4, .int (x2 - x2 / x3 * x3)), (3, .int x3)]) C dX9_common_14 rfl (by decide) rfl ?_
      refine r_iload C dX9_common_15 1 rfl ?_
      refine r_istore_n (lv' := [(3, .int (x2 - x2 / x3 * x3)), (2, .int x3), (4, .int (x2 - x2 / x3 * x3))]) C dX9_common_17 rfl (by decide) rfl ?_
      refine r_goto C 4 dX9_common_18 (by decide) ?_
      exact ST_lv [1, 0] rfl (hk_4 x3 (x2 - x2 / x3 * x3) hf)
  have hb_4 : ∀ (n : Nat) (x2 : Int32) (x3 : Int32), f_X9_common_b4 n x2 x3 = some res → Z [] 4 [(2, .int x2), (3, .int x3)] [] := by
    intro  n
    induction n with
    | zero => intro x2 x3 hf; exact nn_ hf
    | succ n ih => exact fun x2 x3 hf => hs_4 _ ih x2 x3 hf
  subst hZ
  refine r_iload_n C dX9_common_0 rfl 0 rfl ?_
  refine r_istore_n (lv' := [(2, .int x0), (0, .int x0), (1, .int x1)]) C dX9_common_1 rfl (by decide) rfl ?_
  refine r_iload_n C dX9_common_2 rfl 2 rfl ?_
  refine r_istore_n (lv' := [(3, .int x1), (2, .int x0), (0, .int x0), (1, .int x1)]) C dX9_common_3 rfl (by decide) rfl ?_
  exact ST_lv [1, 0] rfl (hb_4 5000 x0 x1 hf)

theorem lk_X9_lot_1 : Cond.fieldLink RX9 7 "ParishCoatModel" "told" "[I" ∈ wsX9_lot := List.mem_of_getElem? (i := 1) rfl
theorem in_X9_lot_X9 : ∀ w ∈ u_ws RX9 TX9 21, w ∈ wsX9_lot := fun _ h => List.mem_cons_of_mem _ (List.mem_append_right _ h)
theorem hyV_X9_factorial : yX9_factorial.cls = RX9 ∧ yX9_factorial.cls ≠ "java/lang/invoke/MethodHandle" ∧ yX9_factorial.cls ≠ "java/lang/invoke/VarHandle" ∧ (parseMethodDescriptor yX9_factorial.desc).map (fun d => d.parameters.length) = some 1 := by decide +kernel
theorem hyS_X9_factorial : yX9_factorial.cls ≠ "java/lang/invoke/MethodHandle" ∧ yX9_factorial.cls ≠ "java/lang/invoke/VarHandle" ∧ (parseMethodDescriptor yX9_factorial.desc).map (fun d => d.parameters.length) = some 1 := by decide +kernel
theorem hyV_X9_common : yX9_common.cls = RX9 ∧ yX9_common.cls ≠ "java/lang/invoke/MethodHandle" ∧ yX9_common.cls ≠ "java/lang/invoke/VarHandle" ∧ (parseMethodDescriptor yX9_common.desc).map (fun d => d.parameters.length) = some 2 := by decide +kernel
theorem hyS_X9_common : yX9_common.cls ≠ "java/lang/invoke/MethodHandle" ∧ yX9_common.cls ≠ "java/lang/invoke/VarHandle" ∧ (parseMethodDescriptor yX9_common.desc).map (fun d => d.parameters.length) = some 2 := by decide +kernel
def f_X9_lot_b99 (v_this_told : Nat → Int32) (v_this_st : Nat → Int32) (k_49 : Int32 → Int32 → Int32 → Int32 → Int32 → Option (Int32)) (x1 : Int32) (x2 : Int32) (x3 : Int32) (x5 : Int32) (s0 : Int32) (s1 : Int32) : Option (Int32) := k_49 x1 x2 x3 (s1 + s0) (x5 + 1)
def f_X9_lot_s49 (v_this_told : Nat → Int32) (v_this_st : Nat → Int32) (k_49 : Int32 → Int32 → Int32 → Int32 → Int32 → Option (Int32)) (x1 : Int32) (x2 : Int32) (x3 : Int32) (x4 : Int32) (x5 : Int32) : Option (Int32) := if ((1 : Int32) <<< ((v_this_told 0) &&& 31)) ≤ x5 then ((f_X9_factorial x3).bind fun y11 => (f_X9_common x4 y11).bind fun y13 => if x2 = 0 then (nz_ y13 (some ((x4 / y13)))) else (nz_ y13 (some ((y11 / y13))))) else ((f_X9_isSwing v_this_told v_this_st x5 x1).bind fun y17 => if y17 = 0 then (f_X9_lot_b99 v_this_told v_this_st k_49 x1 x2 x3 x5 0 x4) else ((f_X9_ones x5).bind fun y19 => (f_X9_factorial y19).bind fun y21 => (f_X9_ones x5).bind fun y23 => (f_X9_factorial ((x3 - 1) - y23)).bind fun y25 => f_X9_lot_b99 v_this_told v_this_st k_49 x1 x2 x3 x5 (y21 * y25) x4))
def f_X9_lot_b49 (v_this_told : Nat → Int32) (v_this_st : Nat → Int32) (n : Nat) : Int32 → Int32 → Int32 → Int32 → Int32 → Option (Int32) := it_ (f_X9_lot_s49 v_this_told v_this_st ) (fun _ _ _ _ _ => none) n
def f_X9_lot (v_this_told : Nat → Int32) (v_this_st : Nat → Int32) (x1 : Int32) (x2 : Int32) : Option (Int32) := (f_X9_isFamily v_this_told x1).bind fun y1 => if y1 = 0 then (some ((-2))) else ((f_X9_in (Int32.toInt64 x2) 0 1).bind fun y3 => if y3 = 0 then (some ((-3))) else ((f_X9_isFrozen v_this_st x1).bind fun y5 => if y5 = 0 then ((f_X9_alive v_this_told v_this_st).bind fun y7 => (f_X9_ones y7).bind fun y9 => f_X9_lot_b49 v_this_told v_this_st 5000 x1 x2 y9 0 0) else (some ((-4)))))
def w_X9_lot (cyI cyZ cyW : ClassId) (a_this : Nat) (a_this_told : Nat) (a_this_st : Nat) (a_this_text : Nat) (v_this_letters : Int32) (v_this_place : Int32) (v_this_token : Int32) (v_this_value : Int32) (v_this_begins : Int32) (a_this_read : Nat) (v_this_clauses : Int32) (a_this_ahead : Nat) (v_this_undoMany : Int32) (a_this_isKept : Nat) (a_this_kept : Nat) (v_this_fewestMany : Int32) (v_this_fewestSets : Int32) (v_this_fewestSet : Int32) (v_this_fewestMost : Int32) (a_this_aside : Nat) (a_this_seens : Nat) (v_this_seenMany : Int32) (v_this_told : Nat → Int32) (v_this_st : Nat → Int32) : va_W := [(a_this, .inr (9, [.ref a_this_told, .ref a_this_st, .ref a_this_text, .int v_this_letters, .int v_this_place, .int v_this_token, .int v_this_value, .int v_this_begins, .ref a_this_read, .int v_this_clauses, .ref a_this_ahead, .int v_this_undoMany, .ref a_this_isKept, .ref a_this_kept, .int v_this_fewestMany, .int v_this_fewestSets, .int v_this_fewestSet, .int v_this_fewestMost, .ref a_this_aside, .ref a_this_seens, .int v_this_seenMany])), (a_this_told, .inl (cyI, 37, .inl v_this_told)), (a_this_st, .inl (cyI, 15, .inl v_this_st))]
set_option maxHeartbeats 4000000 in
set_option maxRecDepth 100000 in
theorem c_X9_lot (l : Launch) (D : va_G) (cyI cyZ cyW : ClassId) (a_this : Nat) (a_this_told : Nat) (a_this_st : Nat) (a_this_text : Nat) (v_this_letters : Int32) (v_this_place : Int32) (v_this_token : Int32) (v_this_value : Int32) (v_this_begins : Int32) (a_this_read : Nat) (v_this_clauses : Int32) (a_this_ahead : Nat) (v_this_undoMany : Int32) (a_this_isKept : Nat) (a_this_kept : Nat) (v_this_fewestMany : Int32) (v_this_fewestSets : Int32) (v_this_fewestSet : Int32) (v_this_fewestMost : Int32) (a_this_aside : Nat) (a_this_seens : Nat) (v_this_seenMany : Int32) (v_this_told : Nat → Int32) (v_this_st : Nat → Int32) (x1 : Int32) (x2 : Int32) (res : Int32) (hf : f_X9_lot v_this_told v_this_st x1 x2 = some res) : ∀ sz, Met l yX9_lot wsX9_lot { frames := 4, cells := 0, slots := 0, locals := 91 } (PCx D (tyG cyI cyZ cyW) [.ref a_this, .int x1, .int x2] (w_X9_lot cyI cyZ cyW a_this a_this_told a_this_st a_this_text v_this_letters v_this_place v_this_token v_this_value v_this_begins a_this_read v_this_clauses a_this_ahead v_this_undoMany a_this_isKept a_this_kept v_this_fewestMany v_this_fewestSets v_this_fewestSet v_this_fewestMost a_this_aside a_this_seens v_this_seenMany v_this_told v_this_st) sz) (QI D (tyG cyI cyZ cyW) (w_X9_lot cyI cyZ cyW a_this a_this_told a_this_st a_this_text v_this_letters v_this_place v_this_token v_this_value v_this_begins a_this_read v_this_clauses a_this_ahead v_this_undoMany a_this_isKept a_this_kept v_this_fewestMany v_this_fewestSets v_this_fewestSet v_this_fewestMost a_this_aside a_this_seens v_this_seenMany v_this_told v_this_st) sz res (w_X9_lot cyI cyZ cyW a_this a_this_told a_this_st a_this_text v_this_letters v_this_place v_this_token v_this_value v_this_begins a_this_read v_this_clauses a_this_ahead v_this_undoMany a_this_isKept a_this_kept v_this_fewestMany v_this_fewestSets v_this_fewestSet v_this_fewestMost a_this_aside a_this_seens v_this_seenMany v_this_told v_this_st)) 0 0 (va_A (w_X9_lot cyI cyZ cyW a_this a_this_told a_this_st a_this_text v_this_letters v_this_place v_this_token v_this_value v_this_begins a_this_read v_this_clauses a_this_ahead v_this_undoMany a_this_isKept a_this_kept v_this_fewestMany v_this_fewestSets v_this_fewestSet v_this_fewestMost a_this_aside a_this_seens v_this_seenMany v_this_told v_this_st) sz) := by
  intro sz
  refine met_of (cc := cX9_lot) (maxL := 7) (ret := (some .int)) (lv0 := [(0, .ref a_this), (1, .int x1), (2, .int x2)]) (by decide) rfl ⟨(Nat.le_of_ble_eq_true rfl), rfl⟩ ?_
  intro p e s m below meth c C hr hlk hnm hsz
  subst hsz
  have C : CX p s m _ c 7 cX9_lot RX9 wsX9_lot D (tyG cyI cyZ cyW) _ := C
  obtain ⟨Z, hZ⟩ : ∃ Z : va_W → Nat → LV → List Value → Prop, Z = ST p l e { frames := 4, cells := 0, slots := 0, locals := 91 } s m [.ref a_this, .int x1, .int x2].toArray below meth c 7 D (va_A (w_X9_lot cyI cyZ cyW a_this a_this_told a_this_st a_this_text v_this_letters v_this_place v_this_token v_this_value v_this_begins a_this_read v_this_clauses a_this_ahead v_this_undoMany a_this_isKept a_this_kept v_this_fewestMany v_this_fewestSets v_this_fewestSet v_this_fewestMost a_this_aside a_this_seens v_this_seenMany v_this_told v_this_st) s.heap.size) (MQ below (QI D (tyG cyI cyZ cyW) (w_X9_lot cyI cyZ cyW a_this a_this_told a_this_st a_this_text v_this_letters v_this_place v_this_token v_this_value v_this_begins a_this_read v_this_clauses a_this_ahead v_this_undoMany a_this_isKept a_this_kept v_this_fewestMany v_this_fewestSets v_this_fewestSet v_this_fewestMost a_this_aside a_this_seens v_this_seenMany v_this_told v_this_st) s.heap.size res (w_X9_lot cyI cyZ cyW a_this a_this_told a_this_st a_this_text v_this_letters v_this_place v_this_token v_this_value v_this_begins a_this_read v_this_clauses a_this_ahead v_this_undoMany a_this_isKept a_this_kept v_this_fewestMany v_this_fewestSets v_this_fewestSet v_this_fewestMost a_this_aside a_this_seens v_this_seenMany v_this_told v_this_st)) [.ref a_this, .int x1, .int x2].toArray s 0 0 (va_A (w_X9_lot cyI cyZ cyW a_this a_this_told a_this_st a_this_text v_this_letters v_this_place v_this_token v_this_value v_this_begins a_this_read v_this_clauses a_this_ahead v_this_undoMany a_this_isKept a_this_kept v_this_fewestMany v_this_fewestSets v_this_fewestSet v_this_fewestMost a_this_aside a_this_seens v_this_seenMany v_this_told v_this_st) s.heap.size)) 0 0 := ⟨_, rfl⟩
  have hb_99 : ∀ (k_49 : Int32 → Int32 → Int32 → Int32 → Int32 → Option (Int32)), (∀ (x1 : Int32) (x2 : Int32) (x3 : Int32) (x4 : Int32) (x5 : Int32), k_49 x1 x2 x3 x4 x5 = some res → Z (w_X9_lot cyI cyZ cyW a_this a_this_told a_this_st a_this_text v_this_letters v_this_place v_this_token v_this_value v_this_begins a_this_read v_this_clauses a_this_ahead v_this_undoMany a_this_isKept a_this_kept v_this_fewestMany v_this_fewestSets v_this_fewestSet v_this_fewestMost a_this_aside a_this_seens v_this_seenMany v_this_told v_this_st) 49 [(0, .ref a_this), (1, .int x1), (2, .int x2), (3, .int x3), (4, .int x4), (5, .int x5)] []) → ∀ (x1 : Int32) (x2 : Int32) (x3 : Int32) (x5 : Int32) (s0 : Int32) (s1 : Int32), f_X9_lot_b99 v_this_told v_this_st k_49 x1 x2 x3 x5 s0 s1 = some res → Z (w_X9_lot cyI cyZ cyW a_this a_this_told a_this_st a_this_text v_this_letters v_this_place v_this_token v_this_value v_this_begins a_this_read v_this_clauses a_this_ahead v_this_undoMany a_this_isKept a_this_kept v_this_fewestMany v_this_fewestSets v_this_fewestSet v_this_fewestMost a_this_aside a_this_seens v_this_seenMany v_this_told v_this_st) 99 [(0, .ref a_this), (1, .int x1), (2, .int x2), (3, .int x3), (5, .int x5)] [.int s0, .int s1] := by
    subst hZ
    intro k_49 hk_49 x1 x2 x3 x5 s0 s1 hf
    refine r_iadd C dX9_lot_99 ?_
    refine r_istore (lv' := [(4, .int (s1 + s0)), (0, .ref a_this), (1, .int x1), (2, .int x2), (3, .int x3), (5, .int x5)]) C dX9_lot_100 (by decide) rfl ?_
    refine r_iinc (v := 1) (k := 5) (lv' := [(5, .int (x5 + 1)), (4, .int (s1 + s0)), (0, .ref a_this), (1, .int x1), (2, .int x2), (3, .int x3)]) C dX9_lot_102 rfl (by decide) (by decide) rfl ?_
    refine r_goto C 49 dX9_lot_105 (by decide) ?_
    exact ST_lv [2, 3, 4, 5, 1, 0] rfl (hk_49 x1 x2 x3 (s1 + s0) (x5 + 1) hf)
  have hs_49 : ∀ (k_49 : Int32 → Int32 → Int32 → Int32 → Int32 → Option (Int32)), (∀ (x1 : Int32) (x2 : Int32) (x3 : Int32) (x4 : Int32) (x5 : Int32), k_49 x1 x2 x3 x4 x5 = some res → Z (w_X9_lot cyI cyZ cyW a_this a_this_told a_this_st a_this_text v_this_letters v_this_place v_this_token v_this_value v_this_begins a_this_read v_this_clauses a_this_ahead v_this_undoMany a_this_isKept a_this_kept v_this_fewestMany v_this_fewestSets v_this_fewestSet v_this_fewestMost a_this_aside a_this_seens v_this_seenMany v_this_told v_this_st) 49 [(0, .ref a_this), (1, .int x1), (2, .int x2), (3, .int x3), (4, .int x4), (5, .int x5)] []) → ∀ (x1 : Int32) (x2 : Int32) (x3 : Int32) (x4 : Int32) (x5 : Int32), f_X9_lot_s49 v_this_told v_this_st k_49 x1 x2 x3 x4 x5 = some res → Z (w_X9_lot cyI cyZ cyW a_this a_this_told a_this_st a_this_text v_this_letters v_this_place v_this_token v_this_value v_this_begins a_this_read v_this_clauses a_this_ahead v_this_undoMany a_this_isKept a_this_kept v_this_fewestMany v_this_fewestSets v_this_fewestSet v_this_fewestMost a_this_aside a_this_seens v_this_seenMany v_this_told v_this_st) 49 [(0, .ref a_this), (1, .int x1), (2, .int x2), (3, .int x3), (4, .int x4), (5, .int x5)] [] := by
    subst hZ
    intro k_49 hk_49 x1 x2 x3 x4 x5 hf
    refine r_iload C dX9_lot_49 5 rfl ?_
    refine r_iconst C 1 dX9_lot_51 (by decide) ?_
    refine r_aload_n C dX9_lot_52 rfl 0 rfl ?_
    refine r_get C in_X9_lot_X9 0 rfl rfl 0 (by decide) lk_X9_lot_1 rfl rfl dX9_lot_53 ?_
    refine r_iconst C 0 dX9_lot_56 (by decide) ?_
    refine r_iald_k C 0 1 0 rfl rfl (kk_ 0 37 (by decide) (by decide)) dX9_lot_57 ?_
    refine r_ishl C dX9_lot_58 ?_
    refine r_icmp_ge C 108 dX9_lot_59 (by decide) hf (fun hf => ?_) (fun hf => ?_)
    · refine r_iload_n C dX9_lot_108 rfl 3 rfl ?_
      obtain ⟨y11, hy12, hf⟩ := bd_some hf
      refine r_roS_i (As := [.int x3]) (rest := []) C (c_X9_factorial l D cyI cyZ cyW x3 y11 hy12) gX9_lot_X9_factorial rfl hyS_X9_factorial ⟨rfl, rfl, (Nat.le_of_ble_eq_true rfl), (Nat.le_of_ble_eq_true rfl)⟩ rfl [] rfl rfl rfl (Nat.le_of_ble_eq_true rfl) ⟨Nat.zero_le _, Nat.zero_le _⟩ dX9_lot_109 ?_
      refine r_istore (lv' := [(5, .int y11), (0, .ref a_this), (1, .int x1), (2, .int x2), (3, .int x3), (4, .int x4)]) C dX9_lot_112 (by decide) rfl ?_
      refine r_iload C dX9_lot_114 5 rfl ?_
      refine r_iload C dX9_lot_116 0 rfl ?_
      obtain ⟨y13, hy14, hf⟩ := bd_some hf
      refine r_roS_i (As := [.int x4, .int y11]) (rest := []) C (c_X9_common l D cyI cyZ cyW x4 y11 y13 hy14) gX9_lot_X9_common rfl hyS_X9_common ⟨rfl, rfl, (Nat.le_of_ble_eq_true rfl), (Nat.le_of_ble_eq_true rfl)⟩ rfl [] rfl rfl rfl (Nat.le_of_ble_eq_true rfl) ⟨Nat.zero_le _, Nat.zero_le _⟩ dX9_lot_118 ?_
      refine r_istore (lv' := [(6, .int y13), (5, .int y11), (0, .ref a_this), (1, .int x1), (2, .int x2), (3, .int x3), (4, .int x4)]) C dX9_lot_121 (by decide) rfl ?_
      refine r_iload_n C dX9_lot_123 rfl 4 rfl ?_
      refine r_if_ne C 135 dX9_lot_124 (by decide) hf (fun hf => ?_) (fun hf => ?_)
      · refine r_iload C dX9_lot_135 1 rfl ?_
        refine r_iload C dX9_lot_137 0 rfl ?_
        obtain ⟨hz15, hf⟩ := nz_some hf
        refine r_idiv C dX9_lot_139 hz15 ?_
        rw [← Option.some.inj hf]
        exact r_iret C hr hlk dX9_lot_140
      · refine r_iload C dX9_lot_127 6 rfl ?_
        refine r_iload C dX9_lot_129 0 rfl ?_
        obtain ⟨hz16, hf⟩ := nz_some hf
        refine r_idiv C dX9_lot_131 hz16 ?_
        refine r_goto C 140 dX9_lot_132 (by decide) ?_
        rw [← Option.some.inj hf]
        exact r_iret C hr hlk dX9_lot_140
    · refine r_iload C dX9_lot_62 4 rfl ?_
      refine r_aload_n C dX9_lot_64 rfl 0 rfl ?_
      refine r_iload C dX9_lot_65 5 rfl ?_
      refine r_iload_n C dX9_lot_67 rfl 1 rfl ?_
      obtain ⟨y17, hy18, hf⟩ := bd_some hf
      refine r_roV_i (As := [.int x5, .int x1]) (rest := [.int x4]) C (c_X9_isSwing l D cyI cyZ cyW a_this a_this_told a_this_st a_this_text v_this_letters v_this_place v_this_token v_this_value v_this_begins a_this_read v_this_clauses a_this_ahead v_this_undoMany a_this_isKept a_this_kept v_this_fewestMany v_this_fewestSets v_this_fewestSet v_this_fewestMost a_this_aside a_this_seens v_this_seenMany v_this_told v_this_st x5 x1 y17 hy18) gX9_lot_X9_isSwing rfl hyV_X9_isSwing ⟨rfl, rfl, (Nat.le_of_ble_eq_true rfl), (Nat.le_of_ble_eq_true rfl)⟩ rfl 0 rfl rfl [0, 1, 2] rfl rfl rfl (Nat.le_of_ble_eq_true rfl) ⟨Nat.zero_le _, Nat.zero_le _⟩ dX9_lot_68 ?_
      refine r_if_eq C 98 dX9_lot_71 (by decide) hf (fun hf => ?_) (fun hf => ?_)
      · refine r_iconst C 0 dX9_lot_98 (by decide) ?_
        exact ST_lv [0, 1, 2, 3, 5] rfl (hb_99 k_49 hk_49 x1 x2 x3 x5 0 x4 hf)
      · refine r_iload C dX9_lot_74 5 rfl ?_
        obtain ⟨y19, hy20, hf⟩ := bd_some hf
        refine r_roS_i (As := [.int x5]) (rest := [.int x4]) C (c_X9_ones l D cyI cyZ cyW x5 y19 hy20) gX9_lot_X9_ones rfl hyS_X9_ones ⟨rfl, rfl, (Nat.le_of_ble_eq_true rfl), (Nat.le_of_ble_eq_true rfl)⟩ rfl [] rfl rfl rfl (Nat.le_of_ble_eq_true rfl) ⟨Nat.zero_le _, Nat.zero_le _⟩ dX9_lot_76 ?_
        obtain ⟨y21, hy22, hf⟩ := bd_some hf
        refine r_roS_i (As := [.int y19]) (rest := [.int x4]) C (c_X9_factorial l D cyI cyZ cyW y19 y21 hy22) gX9_lot_X9_factorial rfl hyS_X9_factorial ⟨rfl, rfl, (Nat.le_of_ble_eq_true rfl), (Nat.le_of_ble_eq_true rfl)⟩ rfl [] rfl rfl rfl (Nat.le_of_ble_eq_true rfl) ⟨Nat.zero_le _, Nat.zero_le _⟩ dX9_lot_79 ?_
        refine r_iload_n C dX9_lot_82 rfl 3 rfl ?_
        refine r_iconst C 1 dX9_lot_83 (by decide) ?_
        refine r_isub C dX9_lot_84 ?_
        refine r_iload C dX9_lot_85 5 rfl ?_
        obtain ⟨y23, hy24, hf⟩ := bd_some hf
        refine r_roS_i (As := [.int x5]) (rest := [.int (x3 - 1), .int y21, .int x4]) C (c_X9_ones l D cyI cyZ cyW x5 y23 hy24) gX9_lot_X9_ones rfl hyS_X9_ones ⟨rfl, rfl, (Nat.le_of_ble_eq_true rfl), (Nat.le_of_ble_eq_true rfl)⟩ rfl [] rfl rfl rfl (Nat.le_of_ble_eq_true rfl) ⟨Nat.zero_le _, Nat.zero_le _⟩ dX9_lot_87 ?_
        refine r_isub C dX9_lot_90 ?_
        obtain ⟨y25, hy26, hf⟩ := bd_some hf
        refine r_roS_i (As := [.int ((x3 - 1) - y23)]) (rest := [.int y21, .int x4]) C (c_X9_factorial l D cyI cyZ cyW ((x3 - 1) - y23) y25 hy26) gX9_lot_X9_factorial rfl hyS_X9_factorial ⟨rfl, rfl, (Nat.le_of_ble_eq_true rfl), (Nat.le_of_ble_eq_true rfl)⟩ rfl [] rfl rfl rfl (Nat.le_of_ble_eq_true rfl) ⟨Nat.zero_le _, Nat.zero_le _⟩ dX9_lot_91 ?_
        refine r_imul C dX9_lot_94 ?_
        refine r_goto C 99 dX9_lot_95 (by decide) ?_
        exact ST_lv [0, 1, 2, 3, 5] rfl (hb_99 k_49 hk_49 x1 x2 x3 x5 (y21 * y25) x4 hf)
  have hb_49 : ∀ (n : Nat) (x1 : Int32) (x2 : Int32) (x3 : Int32) (x4 : Int32) (x5 : Int32), f_X9_lot_b49 v_this_told v_this_st n x1 x2 x3 x4 x5 = some res → Z (w_X9_lot cyI cyZ cyW a_this a_this_told a_this_st a_this_text v_this_letters v_this_place v_this_token v_this_value v_this_begins a_this_read v_this_clauses a_this_ahead v_this_undoMany a_this_isKept a_this_kept v_this_fewestMany v_this_fewestSets v_this_fewestSet v_this_fewestMost a_this_aside a_this_seens v_this_seenMany v_this_told v_this_st) 49 [(0, .ref a_this), (1, .int x1), (2, .int x2), (3, .int x3), (4, .int x4), (5, .int x5)] [] := by
    intro  n
    induction n with
    | zero => intro x1 x2 x3 x4 x5 hf; exact nn_ hf
    | succ n ih => exact fun x1 x2 x3 x4 x5 hf => hs_49 _ ih x1 x2 x3 x4 x5 hf
  subst hZ
  refine r_aload_n C dX9_lot_0 rfl 0 rfl ?_
  refine r_iload_n C dX9_lot_1 rfl 1 rfl ?_
  obtain ⟨y1, hy2, hf⟩ := bd_some hf
  refine r_roV_i (As := [.int x1]) (rest := []) C (c_X9_isFamily l D cyI cyZ cyW a_this a_this_told a_this_st a_this_text v_this_letters v_this_place v_this_token v_this_value v_this_begins a_this_read v_this_clauses a_this_ahead v_this_undoMany a_this_isKept a_this_kept v_this_fewestMany v_this_fewestSets v_this_fewestSet v_this_fewestMost a_this_aside a_this_seens v_this_seenMany v_this_told x1 y1 hy2) gX9_lot_X9_isFamily rfl hyV_X9_isFamily ⟨rfl, rfl, (Nat.le_of_ble_eq_true rfl), (Nat.le_of_ble_eq_true rfl)⟩ rfl 0 rfl rfl [0, 1] rfl rfl rfl (Nat.le_of_ble_eq_true rfl) ⟨Nat.zero_le _, Nat.zero_le _⟩ dX9_lot_2 ?_
  refine r_if_ne C 11 dX9_lot_5 (by decide) hf (fun hf => ?_) (fun hf => ?_)
  · refine r_iload_n C dX9_lot_11 rfl 2 rfl ?_
    refine r_i2l C dX9_lot_12 ?_
    refine r_lconst C 0 dX9_lot_13 (by decide) ?_
    refine r_lconst C 1 dX9_lot_14 (by decide) ?_
    obtain ⟨y3, hy4, hf⟩ := bd_some hf
    refine r_roS_i (As := [.long (Int32.toInt64 x2), .long 0, .long 1]) (rest := []) C (c_X9_in l D cyI cyZ cyW (Int32.toInt64 x2) 0 1 y3 hy4) gX9_lot_X9_in rfl hyS_X9_in ⟨rfl, rfl, (Nat.le_of_ble_eq_true rfl), (Nat.le_of_ble_eq_true rfl)⟩ rfl [] rfl rfl rfl (Nat.le_of_ble_eq_true rfl) ⟨Nat.zero_le _, Nat.zero_le _⟩ dX9_lot_15 ?_
    refine r_if_ne C 24 dX9_lot_18 (by decide) hf (fun hf => ?_) (fun hf => ?_)
    · refine r_aload_n C dX9_lot_24 rfl 0 rfl ?_
      refine r_iload_n C dX9_lot_25 rfl 1 rfl ?_
      obtain ⟨y5, hy6, hf⟩ := bd_some hf
      refine r_roV_i (As := [.int x1]) (rest := []) C (c_X9_isFrozen l D cyI cyZ cyW a_this a_this_told a_this_st a_this_text v_this_letters v_this_place v_this_token v_this_value v_this_begins a_this_read v_this_clauses a_this_ahead v_this_undoMany a_this_isKept a_this_kept v_this_fewestMany v_this_fewestSets v_this_fewestSet v_this_fewestMost a_this_aside a_this_seens v_this_seenMany v_this_st x1 y5 hy6) gX9_lot_X9_isFrozen rfl hyV_X9_isFrozen ⟨rfl, rfl, (Nat.le_of_ble_eq_true rfl), (Nat.le_of_ble_eq_true rfl)⟩ rfl 0 rfl rfl [0, 2] rfl rfl rfl (Nat.le_of_ble_eq_true rfl) ⟨Nat.zero_le _, Nat.zero_le _⟩ dX9_lot_26 ?_
      refine r_if_eq C 35 dX9_lot_29 (by decide) hf (fun hf => ?_) (fun hf => ?_)
      · refine r_aload_n C dX9_lot_35 rfl 0 rfl ?_
        obtain ⟨y7, hy8, hf⟩ := bd_some hf
        refine r_roV_i (As := []) (rest := []) C (c_X9_alive l D cyI cyZ cyW a_this a_this_told a_this_st a_this_text v_this_letters v_this_place v_this_token v_this_value v_this_begins a_this_read v_this_clauses a_this_ahead v_this_undoMany a_this_isKept a_this_kept v_this_fewestMany v_this_fewestSets v_this_fewestSet v_this_fewestMost a_this_aside a_this_seens v_this_seenMany v_this_told v_this_st y7 hy8) gX9_lot_X9_alive rfl hyV_X9_alive ⟨rfl, rfl, (Nat.le_of_ble_eq_true rfl), (Nat.le_of_ble_eq_true rfl)⟩ rfl 0 rfl rfl [0, 1, 2] rfl rfl rfl (Nat.le_of_ble_eq_true rfl) ⟨Nat.zero_le _, Nat.zero_le _⟩ dX9_lot_36 ?_
        obtain ⟨y9, hy10, hf⟩ := bd_some hf
        refine r_roS_i (As := [.int y7]) (rest := []) C (c_X9_ones l D cyI cyZ cyW y7 y9 hy10) gX9_lot_X9_ones rfl hyS_X9_ones ⟨rfl, rfl, (Nat.le_of_ble_eq_true rfl), (Nat.le_of_ble_eq_true rfl)⟩ rfl [] rfl rfl rfl (Nat.le_of_ble_eq_true rfl) ⟨Nat.zero_le _, Nat.zero_le _⟩ dX9_lot_39 ?_
        refine r_istore_n (lv' := [(3, .int y9), (0, .ref a_this), (1, .int x1), (2, .int x2)]) C dX9_lot_42 rfl (by decide) rfl ?_
        refine r_iconst C 0 dX9_lot_43 (by decide) ?_
        refine r_istore (lv' := [(4, .int 0), (3, .int y9), (0, .ref a_this), (1, .int x1), (2, .int x2)]) C dX9_lot_44 (by decide) rfl ?_
        refine r_iconst C 0 dX9_lot_46 (by decide) ?_
        refine r_istore (lv' := [(5, .int 0), (4, .int 0), (3, .int y9), (0, .ref a_this), (1, .int x1), (2, .int x2)]) C dX9_lot_47 (by decide) rfl ?_
        exact ST_lv [3, 4, 5, 2, 1, 0] rfl (hb_49 5000 x1 x2 y9 0 0 hf)
      · refine r_bipush C (-4) dX9_lot_32 (by decide) ?_
        rw [← Option.some.inj hf]
        exact r_iret C hr hlk dX9_lot_34
    · refine r_bipush C (-3) dX9_lot_21 (by decide) ?_
      rw [← Option.some.inj hf]
      exact r_iret C hr hlk dX9_lot_23
  · refine r_bipush C (-2) dX9_lot_8 (by decide) ?_
    rw [← Option.some.inj hf]
    exact r_iret C hr hlk dX9_lot_10

theorem lk_X9_win_1 : Cond.fieldLink RX9 7 "ParishCoatModel" "told" "[I" ∈ wsX9_win := List.mem_of_getElem? (i := 1) rfl
theorem in_X9_win_X9 : ∀ w ∈ u_ws RX9 TX9 21, w ∈ wsX9_win := fun _ h => List.mem_cons_of_mem _ (List.mem_append_right _ h)
def f_X9_win_b199 (v_this_told : Nat → Int32) (v_this_st : Nat → Int32) (k_60 : Int32 → Int32 → Int32 → Int32 → Int32 → Int32 → Option (Int32)) (x2 : Int32) (x3 : Int32) (x4 : Int32) (x5 : Int32) (x6 : Int32) (x7 : Int32) : Option (Int32) := k_60 x2 x3 x4 x5 x6 (x7 + 1)
def f_X9_win_b191 (v_this_told : Nat → Int32) (v_this_st : Nat → Int32) (k_60 : Int32 → Int32 → Int32 → Int32 → Int32 → Int32 → Option (Int32)) (x2 : Int32) (x3 : Int32) (x4 : Int32) (x7 : Int32) (x9 : Int32) : Option (Int32) := f_X9_win_b199 v_this_told v_this_st k_60 x2 x3 x4 x7 x9 x7
def f_X9_win_b165 (v_this_told : Nat → Int32) (v_this_st : Nat → Int32) (k_60 : Int32 → Int32 → Int32 → Int32 → Int32 → Int32 → Option (Int32)) (k_128 : Int32 → Int32 → Int32 → Int32 → Int32 → Int32 → Int32 → Int32 → Int32 → Option (Int32)) (x2 : Int32) (x3 : Int32) (x4 : Int32) (x5 : Int32) (x6 : Int32) (x7 : Int32) (x8 : Int32) (x10 : Int32) (s0 : Int32) (s1 : Int32) : Option (Int32) := k_128 x2 x3 x4 x5 x6 x7 x8 (s1 + s0) (x10 + 1)
def f_X9_win_s128 (v_this_told : Nat → Int32) (v_this_st : Nat → Int32) (k_60 : Int32 → Int32 → Int32 → Int32 → Int32 → Int32 → Option (Int32)) (k_128 : Int32 → Int32 → Int32 → Int32 → Int32 → Int32 → Int32 → Int32 → Int32 → Option (Int32)) (x2 : Int32) (x3 : Int32) (x4 : Int32) (x5 : Int32) (x6 : Int32) (x7 : Int32) (x8 : Int32) (x9 : Int32) (x10 : Int32) : Option (Int32) := if (v_this_told 0) ≤ x10 then (if x8 = 0 then (f_X9_win_b199 v_this_told v_this_st k_60 x2 x3 x4 x5 x6 x7) else (if x5 < 0 then (f_X9_win_b191 v_this_told v_this_st k_60 x2 x3 x4 x7 x9) else (if x6 ≤ x9 then (f_X9_win_b199 v_this_told v_this_st k_60 x2 x3 x4 x5 x6 x7) else (f_X9_win_b191 v_this_told v_this_st k_60 x2 x3 x4 x7 x9)))) else ((f_X9_has x7 x10).bind fun y17 => if y17 = 0 then (f_X9_win_b165 v_this_told v_this_st k_60 k_128 x2 x3 x4 x5 x6 x7 x8 x10 0 x9) else (gd_ (17 + x10) 37 (f_X9_win_b165 v_this_told v_this_st k_60 k_128 x2 x3 x4 x5 x6 x7 x8 x10 (v_this_told (Int32.toNatClampNeg (17 + x10))) x9)))
def f_X9_win_b128 (v_this_told : Nat → Int32) (v_this_st : Nat → Int32) (k_60 : Int32 → Int32 → Int32 → Int32 → Int32 → Int32 → Option (Int32)) (n : Nat) : Int32 → Int32 → Int32 → Int32 → Int32 → Int32 → Int32 → Int32 → Int32 → Option (Int32) := it_ (f_X9_win_s128 v_this_told v_this_st k_60) (fun _ _ _ _ _ _ _ _ _ => none) n
def f_X9_win_b120 (v_this_told : Nat → Int32) (v_this_st : Nat → Int32) (k_60 : Int32 → Int32 → Int32 → Int32 → Int32 → Int32 → Option (Int32)) (x2 : Int32) (x3 : Int32) (x4 : Int32) (x5 : Int32) (x6 : Int32) (x7 : Int32) (s0 : Int32) : Option (Int32) := f_X9_win_b128 v_this_told v_this_st k_60 5000 x2 x3 x4 x5 x6 x7 s0 0 0
def f_X9_win_b119 (v_this_told : Nat → Int32) (v_this_st : Nat → Int32) (k_60 : Int32 → Int32 → Int32 → Int32 → Int32 → Int32 → Option (Int32)) (x2 : Int32) (x3 : Int32) (x4 : Int32) (x5 : Int32) (x6 : Int32) (x7 : Int32) : Option (Int32) := f_X9_win_b120 v_this_told v_this_st k_60 x2 x3 x4 x5 x6 x7 0
def f_X9_win_s60 (v_this_told : Nat → Int32) (v_this_st : Nat → Int32) (k_60 : Int32 → Int32 → Int32 → Int32 → Int32 → Int32 → Option (Int32)) (x2 : Int32) (x3 : Int32) (x4 : Int32) (x5 : Int32) (x6 : Int32) (x7 : Int32) : Option (Int32) := if ((1 : Int32) <<< ((v_this_told 0) &&& 31)) ≤ x7 then (if 0 ≤ x5 then (if x2 = 0 then (some (x6)) else (some (x5))) else (some ((-1)))) else (if (x7 &&& (x4 ^^^ (-1))) = 0 then ((f_X9_weights v_this_st v_this_told (x3 ||| x7)).bind fun y11 => if y11 < (v_this_told 1) then (f_X9_win_b119 v_this_told v_this_st k_60 x2 x3 x4 x5 x6 x7) else ((f_X9_warmBy v_this_told (x3 ||| x7)).bind fun y13 => (f_X9_coldNow v_this_told v_this_st).bind fun y15 => if y13 < y15 then (f_X9_win_b119 v_this_told v_this_st k_60 x2 x3 x4 x5 x6 x7) else (f_X9_win_b120 v_this_told v_this_st k_60 x2 x3 x4 x5 x6 x7 1))) else (f_X9_win_b119 v_this_told v_this_st k_60 x2 x3 x4 x5 x6 x7))
def f_X9_win_b60 (v_this_told : Nat → Int32) (v_this_st : Nat → Int32) (n : Nat) : Int32 → Int32 → Int32 → Int32 → Int32 → Int32 → Option (Int32) := it_ (f_X9_win_s60 v_this_told v_this_st ) (fun _ _ _ _ _ _ => none) n
def f_X9_win (v_this_told : Nat → Int32) (v_this_st : Nat → Int32) (x1 : Int32) (x2 : Int32) : Option (Int32) := (f_X9_isFamily v_this_told x1).bind fun y1 => if y1 = 0 then (some ((-2))) else ((f_X9_in (Int32.toInt64 x2) 0 1).bind fun y3 => if y3 = 0 then (some ((-3))) else ((f_X9_isFrozen v_this_st x1).bind fun y5 => if y5 = 0 then ((f_X9_doneUp v_this_told v_this_st x1).bind fun y7 => (f_X9_alive v_this_told v_this_st).bind fun y9 => f_X9_win_b60 v_this_told v_this_st 5000 x2 y7 (y9 &&& (y7 ^^^ (-1))) (-1) 0 0) else (some ((-4)))))
def w_X9_win (cyI cyZ cyW : ClassId) (a_this : Nat) (a_this_told : Nat) (a_this_st : Nat) (a_this_text : Nat) (v_this_letters : Int32) (v_this_place : Int32) (v_this_token : Int32) (v_this_value : Int32) (v_this_begins : Int32) (a_this_read : Nat) (v_this_clauses : Int32) (a_this_ahead : Nat) (v_this_undoMany : Int32) (a_this_isKept : Nat) (a_this_kept : Nat) (v_this_fewestMany : Int32) (v_this_fewestSets : Int32) (v_this_fewestSet : Int32) (v_this_fewestMost : Int32) (a_this_aside : Nat) (a_this_seens : Nat) (v_this_seenMany : Int32) (v_this_told : Nat → Int32) (v_this_st : Nat → Int32) : va_W := [(a_this, .inr (9, [.ref a_this_told, .ref a_this_st, .ref a_this_text, .int v_this_letters, .int v_this_place, .int v_this_token, .int v_this_value, .int v_this_begins, .ref a_this_read, .int v_this_clauses, .ref a_this_ahead, .int v_this_undoMany, .ref a_this_isKept, .ref a_this_kept, .int v_this_fewestMany, .int v_this_fewestSets, .int v_this_fewestSet, .int v_this_fewestMost, .ref a_this_aside, .ref a_this_seens, .int v_this_seenMany])), (a_this_told, .inl (cyI, 37, .inl v_this_told)), (a_this_st, .inl (cyI, 15, .inl v_this_st))]
set_option maxHeartbeats 4000000 in
set_option maxRecDepth 100000 in
theorem c_X9_win (l : Launch) (D : va_G) (cyI cyZ cyW : ClassId) (a_this : Nat) (a_this_told : Nat) (a_this_st : Nat) (a_this_text : Nat) (v_this_letters : Int32) (v_this_place : Int32) (v_this_token : Int32) (v_this_value : Int32) (v_this_begins : Int32) (a_this_read : Nat) (v_this_clauses : Int32) (a_this_ahead : Nat) (v_this_undoMany : Int32) (a_this_isKept : Nat) (a_this_kept : Nat) (v_this_fewestMany : Int32) (v_this_fewestSets : Int32) (v_this_fewestSet : Int32) (v_this_fewestMost : Int32) (a_this_aside : Nat) (a_this_seens : Nat) (v_this_seenMany : Int32) (v_this_told : Nat → Int32) (v_this_st : Nat → Int32) (x1 : Int32) (x2 : Int32) (res : Int32) (hf : f_X9_win v_this_told v_this_st x1 x2 = some res) : ∀ sz, Met l yX9_win wsX9_win { frames := 4, cells := 0, slots := 0, locals := 84 } (PCx D (tyG cyI cyZ cyW) [.ref a_this, .int x1, .int x2] (w_X9_win cyI cyZ cyW a_this a_this_told a_this_st a_this_text v_this_letters v_this_place v_this_token v_this_value v_this_begins a_this_read v_this_clauses a_this_ahead v_this_undoMany a_this_isKept a_this_kept v_this_fewestMany v_this_fewestSets v_this_fewestSet v_this_fewestMost a_this_aside a_this_seens v_this_seenMany v_this_told v_this_st) sz) (QI D (tyG cyI cyZ cyW) (w_X9_win cyI cyZ cyW a_this a_this_told a_this_st a_this_text v_this_letters v_this_place v_this_token v_this_value v_this_begins a_this_read v_this_clauses a_this_ahead v_this_undoMany a_this_isKept a_this_kept v_this_fewestMany v_this_fewestSets v_this_fewestSet v_this_fewestMost a_this_aside a_this_seens v_this_seenMany v_this_told v_this_st) sz res (w_X9_win cyI cyZ cyW a_this a_this_told a_this_st a_this_text v_this_letters v_this_place v_this_token v_this_value v_this_begins a_this_read v_this_clauses a_this_ahead v_this_undoMany a_this_isKept a_this_kept v_this_fewestMany v_this_fewestSets v_this_fewestSet v_this_fewestMost a_this_aside a_this_seens v_this_seenMany v_this_told v_this_st)) 0 0 (va_A (w_X9_win cyI cyZ cyW a_this a_this_told a_this_st a_this_text v_this_letters v_this_place v_this_token v_this_value v_this_begins a_this_read v_this_clauses a_this_ahead v_this_undoMany a_this_isKept a_this_kept v_this_fewestMany v_this_fewestSets v_this_fewestSet v_this_fewestMost a_this_aside a_this_seens v_this_seenMany v_this_told v_this_st) sz) := by
  intro sz
  refine met_of (cc := cX9_win) (maxL := 11) (ret := (some .int)) (lv0 := [(0, .ref a_this), (1, .int x1), (2, .int x2)]) (by decide) rfl ⟨(Nat.le_of_ble_eq_true rfl), rfl⟩ ?_
  intro p e s m below meth c C hr hlk hnm hsz
  subst hsz
  have C : CX p s m _ c 11 cX9_win RX9 wsX9_win D (tyG cyI cyZ cyW) _ := C
  obtain ⟨Z, hZ⟩ : ∃ Z : va_W → Nat → LV → List Value → Prop, Z = ST p l e { frames := 4, cells := 0, slots := 0, locals := 84 } s m [.ref a_this, .int x1, .int x2].toArray below meth c 11 D (va_A (w_X9_win cyI cyZ cyW a_this a_this_told a_this_st a_this_text v_this_letters v_this_place v_this_token v_this_value v_this_begins a_this_read v_this_clauses a_this_ahead v_this_undoMany a_this_isKept a_this_kept v_this_fewestMany v_this_fewestSets v_this_fewestSet v_this_fewestMost a_this_aside a_this_seens v_this_seenMany v_this_told v_this_st) s.heap.size) (MQ below (QI D (tyG cyI cyZ cyW) (w_X9_win cyI cyZ cyW a_this a_this_told a_this_st a_this_text v_this_letters v_this_place v_this_token v_this_value v_this_begins a_this_read v_this_clauses a_this_ahead v_this_undoMany a_this_isKept a_this_kept v_this_fewestMany v_this_fewestSets v_this_fewestSet v_this_fewestMost a_this_aside a_this_seens v_this_seenMany v_this_told v_this_st) s.heap.size res (w_X9_win cyI cyZ cyW a_this a_this_told a_this_st a_this_text v_this_letters v_this_place v_this_token v_this_value v_this_begins a_this_read v_this_clauses a_this_ahead v_this_undoMany a_this_isKept a_this_kept v_this_fewestMany v_this_fewestSets v_this_fewestSet v_this_fewestMost a_this_aside a_this_seens v_this_seenMany v_this_told v_this_st)) [.ref a_this, .int x1, .int x2].toArray s 0 0 (va_A (w_X9_win cyI cyZ cyW a_this a_this_told a_this_st a_this_text v_this_letters v_this_place v_this_token v_this_value v_this_begins a_this_read v_this_clauses a_this_ahead v_this_undoMany a_this_isKept a_this_kept v_this_fewestMany v_this_fewestSets v_this_fewestSet v_this_fewestMost a_this_aside a_this_seens v_this_seenMany v_this_told v_this_st) s.heap.size)) 0 0 := ⟨_, rfl⟩
  have hb_199 : ∀ (k_60 : Int32 → Int32 → Int32 → Int32 → Int32 → Int32 → Option (Int32)), (∀ (x2 : Int32) (x3 : Int32) (x4 : Int32) (x5 : Int32) (x6 : Int32) (x7 : Int32), k_60 x2 x3 x4 x5 x6 x7 = some res → Z (w_X9_win cyI cyZ cyW a_this a_this_told a_this_st a_this_text v_this_letters v_this_place v_this_token v_this_value v_this_begins a_this_read v_this_clauses a_this_ahead v_this_undoMany a_this_isKept a_this_kept v_this_fewestMany v_this_fewestSets v_this_fewestSet v_this_fewestMost a_this_aside a_this_seens v_this_seenMany v_this_told v_this_st) 60 [(0, .ref a_this), (2, .int x2), (3, .int x3), (4, .int x4), (5, .int x5), (6, .int x6), (7, .int x7)] []) → ∀ (x2 : Int32) (x3 : Int32) (x4 : Int32) (x5 : Int32) (x6 : Int32) (x7 : Int32), f_X9_win_b199 v_this_told v_this_st k_60 x2 x3 x4 x5 x6 x7 = some res → Z (w_X9_win cyI cyZ cyW a_this a_this_told a_this_st a_this_text v_this_letters v_this_place v_this_token v_this_value v_this_begins a_this_read v_this_clauses a_this_ahead v_this_undoMany a_this_isKept a_this_kept v_this_fewestMany v_this_fewestSets v_this_fewestSet v_this_fewestMost a_this_aside a_this_seens v_this_seenMany v_this_told v_this_st) 199 [(0, .ref a_this), (2, .int x2), (3, .int x3), (4, .int x4), (5, .int x5), (6, .int x6), (7, .int x7)] [] := by
    subst hZ
    intro k_60 hk_60 x2 x3 x4 x5 x6 x7 hf
    refine r_iinc (v := 1) (k := 6) (lv' := [(7, .int (x7 + 1)), (0, .ref a_this), (2, .int x2), (3, .int x3), (4, .int x4), (5, .int x5), (6, .int x6)]) C dX9_win_199 rfl (by decide) (by decide) rfl ?_
    refine r_goto C 60 dX9_win_202 (by decide) ?_
    exact ST_lv [1, 2, 3, 4, 5, 6, 0] rfl (hk_60 x2 x3 x4 x5 x6 (x7 + 1) hf)
  have hb_191 : ∀ (k_60 : Int32 → Int32 → Int32 → Int32 → Int32 → Int32 → Option (Int32)), (∀ (x2 : Int32) (x3 : Int32) (x4 : Int32) (x5 : Int32) (x6 : Int32) (x7 : Int32), k_60 x2 x3 x4 x5 x6 x7 = some res → Z (w_X9_win cyI cyZ cyW a_this a_this_told a_this_st a_this_text v_this_letters v_this_place v_this_token v_this_value v_this_begins a_this_read v_this_clauses a_this_ahead v_this_undoMany a_this_isKept a_this_kept v_this_fewestMany v_this_fewestSets v_this_fewestSet v_this_fewestMost a_this_aside a_this_seens v_this_seenMany v_this_told v_this_st) 60 [(0, .ref a_this), (2, .int x2), (3, .int x3), (4, .int x4), (5, .int x5), (6, .int x6), (7, .int x7)] []) → ∀ (x2 : Int32) (x3 : Int32) (x4 : Int32) (x7 : Int32) (x9 : Int32), f_X9_win_b191 v_this_told v_this_st k_60 x2 x3 x4 x7 x9 = some res → Z (w_X9_win cyI cyZ cyW a_this a_this_told a_this_st a_this_text v_this_letters v_this_place v_this_token v_this_value v_this_begins a_this_read v_this_clauses a_this_ahead v_this_undoMany a_this_isKept a_this_kept v_this_fewestMany v_this_fewestSets v_this_fewestSet v_this_fewestMost a_this_aside a_this_seens v_this_seenMany v_this_told v_this_st) 191 [(0, .ref a_this), (2, .int x2), (3, .int x3), (4, .int x4), (7, .int x7), (9, .int x9)] [] := by
    subst hZ
    intro k_60 hk_60 x2 x3 x4 x7 x9 hf
    refine r_iload C dX9_win_191 4 rfl ?_
    refine r_istore (lv' := [(5, .int x7), (0, .ref a_this), (2, .int x2), (3, .int x3), (4, .int x4), (7, .int x7), (9, .int x9)]) C dX9_win_193 (by decide) rfl ?_
    refine r_iload C dX9_win_195 6 rfl ?_
    refine r_istore (lv' := [(6, .int x9), (5, .int x7), (0, .ref a_this), (2, .int x2), (3, .int x3), (4, .int x4), (7, .int x7), (9, .int x9)]) C dX9_win_197 (by decide) rfl ?_
    exact ST_lv [2, 3, 4, 5, 1, 0, 6] rfl (hb_199 k_60 hk_60 x2 x3 x4 x7 x9 x7 hf)
  have hb_165 : ∀ (k_60 : Int32 → Int32 → Int32 → Int32 → Int32 → Int32 → Option (Int32)), (∀ (x2 : Int32) (x3 : Int32) (x4 : Int32) (x5 : Int32) (x6 : Int32) (x7 : Int32), k_60 x2 x3 x4 x5 x6 x7 = some res → Z (w_X9_win cyI cyZ cyW a_this a_this_told a_this_st a_this_text v_this_letters v_this_place v_this_token v_this_value v_this_begins a_this_read v_this_clauses a_this_ahead v_this_undoMany a_this_isKept a_this_kept v_this_fewestMany v_this_fewestSets v_this_fewestSet v_this_fewestMost a_this_aside a_this_seens v_this_seenMany v_this_told v_this_st) 60 [(0, .ref a_this), (2, .int x2), (3, .int x3), (4, .int x4), (5, .int x5), (6, .int x6), (7, .int x7)] []) → ∀ (k_128 : Int32 → Int32 → Int32 → Int32 → Int32 → Int32 → Int32 → Int32 → Int32 → Option (Int32)), (∀ (x2 : Int32) (x3 : Int32) (x4 : Int32) (x5 : Int32) (x6 : Int32) (x7 : Int32) (x8 : Int32) (x9 : Int32) (x10 : Int32), k_128 x2 x3 x4 x5 x6 x7 x8 x9 x10 = some res → Z (w_X9_win cyI cyZ cyW a_this a_this_told a_this_st a_this_text v_this_letters v_this_place v_this_token v_this_value v_this_begins a_this_read v_this_clauses a_this_ahead v_this_undoMany a_this_isKept a_this_kept v_this_fewestMany v_this_fewestSets v_this_fewestSet v_this_fewestMost a_this_aside a_this_seens v_this_seenMany v_this_told v_this_st) 128 [(0, .ref a_this), (2, .int x2), (3, .int x3), (4, .int x4), (5, .int x5), (6, .int x6), (7, .int x7), (8, .int x8), (9, .int x9), (10, .int x10)] []) → ∀ (x2 : Int32) (x3 : Int32) (x4 : Int32) (x5 : Int32) (x6 : Int32) (x7 : Int32) (x8 : Int32) (x10 : Int32) (s0 : Int32) (s1 : Int32), f_X9_win_b165 v_this_told v_this_st k_60 k_128 x2 x3 x4 x5 x6 x7 x8 x10 s0 s1 = some res → Z (w_X9_win cyI cyZ cyW a_this a_this_told a_this_st a_this_text v_this_letters v_this_place v_this_token v_this_value v_this_begins a_this_read v_this_clauses a_this_ahead v_this_undoMany a_this_isKept a_this_kept v_this_fewestMany v_this_fewestSets v_this_fewestSet v_this_fewestMost a_this_aside a_this_seens v_this_seenMany v_this_told v_this_st) 165 [(0, .ref a_this), (2, .int x2), (3, .int x3), (4, .int x4), (5, .int x5), (6, .int x6), (7, .int x7), (8, .int x8), (10, .int x10)] [.int s0, .int s1] := by
    subst hZ
    intro k_60 hk_60 k_128 hk_128 x2 x3 x4 x5 x6 x7 x8 x10 s0 s1 hf
    refine r_iadd C dX9_win_165 ?_
    refine r_istore (lv' := [(9, .int (s1 + s0)), (0, .ref a_this), (2, .int x2), (3, .int x3), (4, .int x4), (5, .int x5), (6, .int x6), (7, .int x7), (8, .int x8), (10, .int x10)]) C dX9_win_166 (by decide) rfl ?_
    refine r_iinc (v := 1) (k := 9) (lv' := [(10, .int (x10 + 1)), (9, .int (s1 + s0)), (0, .ref a_this), (2, .int x2), (3, .int x3), (4, .int x4), (5, .int x5), (6, .int x6), (7, .int x7), (8, .int x8)]) C dX9_win_168 rfl (by decide) (by decide) rfl ?_
    refine r_goto C 128 dX9_win_171 (by decide) ?_
    exact ST_lv [2, 3, 4, 5, 6, 7, 8, 9, 1, 0] rfl (hk_128 x2 x3 x4 x5 x6 x7 x8 (s1 + s0) (x10 + 1) hf)
  have hs_128 : ∀ (k_60 : Int32 → Int32 → Int32 → Int32 → Int32 → Int32 → Option (Int32)), (∀ (x2 : Int32) (x3 : Int32) (x4 : Int32) (x5 : Int32) (x6 : Int32) (x7 : Int32), k_60 x2 x3 x4 x5 x6 x7 = some res → Z (w_X9_win cyI cyZ cyW a_this a_this_told a_this_st a_this_text v_this_letters v_this_place v_this_token v_this_value v_this_begins a_this_read v_this_clauses a_this_ahead v_this_undoMany a_this_isKept a_this_kept v_this_fewestMany v_this_fewestSets v_this_fewestSet v_this_fewestMost a_this_aside a_this_seens v_this_seenMany v_this_told v_this_st) 60 [(0, .ref a_this), (2, .int x2), (3, .int x3), (4, .int x4), (5, .int x5), (6, .int x6), (7, .int x7)] []) → ∀ (k_128 : Int32 → Int32 → Int32 → Int32 → Int32 → Int32 → Int32 → Int32 → Int32 → Option (Int32)), (∀ (x2 : Int32) (x3 : Int32) (x4 : Int32) (x5 : Int32) (x6 : Int32) (x7 : Int32) (x8 : Int32) (x9 : Int32) (x10 : Int32), k_128 x2 x3 x4 x5 x6 x7 x8 x9 x10 = some res → Z (w_X9_win cyI cyZ cyW a_this a_this_told a_this_st a_this_text v_this_letters v_this_place v_this_token v_this_value v_this_begins a_this_read v_this_clauses a_this_ahead v_this_undoMany a_this_isKept a_this_kept v_this_fewestMany v_this_fewestSets v_this_fewestSet v_this_fewestMost a_this_aside a_this_seens v_this_seenMany v_this_told v_this_st) 128 [(0, .ref a_this), (2, .int x2), (3, .int x3), (4, .int x4), (5, .int x5), (6, .int x6), (7, .int x7), (8, .int x8), (9, .int x9), (10, .int x10)] []) → ∀ (x2 : Int32) (x3 : Int32) (x4 : Int32) (x5 : Int32) (x6 : Int32) (x7 : Int32) (x8 : Int32) (x9 : Int32) (x10 : Int32), f_X9_win_s128 v_this_told v_this_st k_60 k_128 x2 x3 x4 x5 x6 x7 x8 x9 x10 = some res → Z (w_X9_win cyI cyZ cyW a_this a_this_told a_this_st a_this_text v_this_letters v_this_place v_this_token v_this_value v_this_begins a_this_read v_this_clauses a_this_ahead v_this_undoMany a_this_isKept a_this_kept v_this_fewestMany v_this_fewestSets v_this_fewestSet v_this_fewestMost a_this_aside a_this_seens v_this_seenMany v_this_told v_this_st) 128 [(0, .ref a_this), (2, .int x2), (3, .int x3), (4, .int x4), (5, .int x5), (6, .int x6), (7, .int x7), (8, .int x8), (9, .int x9), (10, .int x10)] [] := by
    subst hZ
    intro k_60 hk_60 k_128 hk_128 x2 x3 x4 x5 x6 x7 x8 x9 x10 hf
    refine r_iload C dX9_win_128 9 rfl ?_
    refine r_aload_n C dX9_win_130 rfl 0 rfl ?_
    refine r_get C in_X9_win_X9 0 rfl rfl 0 (by decide) lk_X9_win_1 rfl rfl dX9_win_131 ?_
    refine r_iconst C 0 dX9_win_134 (by decide) ?_
    refine r_iald_k C 0 1 0 rfl rfl (kk_ 0 37 (by decide) (by decide)) dX9_win_135 ?_
    refine r_icmp_ge C 174 dX9_win_136 (by decide) hf (fun hf => ?_) (fun hf => ?_)
    · refine r_iload C dX9_win_174 7 rfl ?_
      refine r_if_eq C 199 dX9_win_176 (by decide) hf (fun hf => ?_) (fun hf => ?_)
      · exact ST_lv [0, 1, 2, 3, 4, 5, 6] rfl (hb_199 k_60 hk_60 x2 x3 x4 x5 x6 x7 hf)
      · refine r_iload C dX9_win_179 4 rfl ?_
        refine r_if_lt C 191 dX9_win_181 (by decide) hf (fun hf => ?_) (fun hf => ?_)
        · exact ST_lv [0, 1, 2, 3, 6, 8] rfl (hb_191 k_60 hk_60 x2 x3 x4 x7 x9 hf)
        · refine r_iload C dX9_win_184 8 rfl ?_
          refine r_iload C dX9_win_186 5 rfl ?_
          refine r_icmp_ge C 199 dX9_win_188 (by decide) hf (fun hf => ?_) (fun hf => ?_)
          · exact ST_lv [0, 1, 2, 3, 4, 5, 6] rfl (hb_199 k_60 hk_60 x2 x3 x4 x5 x6 x7 hf)
          · exact ST_lv [0, 1, 2, 3, 6, 8] rfl (hb_191 k_60 hk_60 x2 x3 x4 x7 x9 hf)
    · refine r_iload C dX9_win_139 8 rfl ?_
      refine r_iload C dX9_win_141 6 rfl ?_
      refine r_iload C dX9_win_143 9 rfl ?_
      obtain ⟨y17, hy18, hf⟩ := bd_some hf
      refine r_roS_i (As := [.int x7, .int x10]) (rest := [.int x9]) C (c_X9_has l D cyI cyZ cyW x7 x10 y17 hy18) gX9_win_X9_has rfl hyS_X9_has ⟨rfl, rfl, (Nat.le_of_ble_eq_true rfl), (Nat.le_of_ble_eq_true rfl)⟩ rfl [] rfl rfl rfl (Nat.le_of_ble_eq_true rfl) ⟨Nat.zero_le _, Nat.zero_le _⟩ dX9_win_145 ?_
      refine r_if_eq C 164 dX9_win_148 (by decide) hf (fun hf => ?_) (fun hf => ?_)
      · refine r_iconst C 0 dX9_win_164 (by decide) ?_
        exact ST_lv [0, 1, 2, 3, 4, 5, 6, 7, 9] rfl (hb_165 k_60 hk_60 k_128 hk_128 x2 x3 x4 x5 x6 x7 x8 x10 0 x9 hf)
      · refine r_aload_n C dX9_win_151 rfl 0 rfl ?_
        refine r_get C in_X9_win_X9 0 rfl rfl 0 (by decide) lk_X9_win_1 rfl rfl dX9_win_152 ?_
        refine r_bipush C 17 dX9_win_155 (by decide) ?_
        refine r_iload C dX9_win_157 9 rfl ?_
        refine r_iadd C dX9_win_159 ?_
        obtain ⟨hi19, hf⟩ := gd_some hf
        refine r_iald C 1 0 rfl rfl hi19 dX9_win_160 ?_
        refine r_goto C 165 dX9_win_161 (by decide) ?_
        exact ST_lv [0, 1, 2, 3, 4, 5, 6, 7, 9] rfl (hb_165 k_60 hk_60 k_128 hk_128 x2 x3 x4 x5 x6 x7 x8 x10 (v_this_told (Int32.toNatClampNeg (17 + x10))) x9 hf)
  have hb_128 : ∀ (k_60 : Int32 → Int32 → Int32 → Int32 → Int32 → Int32 → Option (Int32)), (∀ (x2 : Int32) (x3 : Int32) (x4 : Int32) (x5 : Int32) (x6 : Int32) (x7 : Int32), k_60 x2 x3 x4 x5 x6 x7 = some res → Z (w_X9_win cyI cyZ cyW a_this a_this_told a_this_st a_this_text v_this_letters v_this_place v_this_token v_this_value v_this_begins a_this_read v_this_clauses a_this_ahead v_this_undoMany a_this_isKept a_this_kept v_this_fewestMany v_this_fewestSets v_this_fewestSet v_this_fewestMost a_this_aside a_this_seens v_this_seenMany v_this_told v_this_st) 60 [(0, .ref a_this), (2, .int x2), (3, .int x3), (4, .int x4), (5, .int x5), (6, .int x6), (7, .int x7)] []) → ∀ (n : Nat) (x2 : Int32) (x3 : Int32) (x4 : Int32) (x5 : Int32) (x6 : Int32) (x7 : Int32) (x8 : Int32) (x9 : Int32) (x10 : Int32), f_X9_win_b128 v_this_told v_this_st k_60 n x2 x3 x4 x5 x6 x7 x8 x9 x10 = some res → Z (w_X9_win cyI cyZ cyW a_this a_this_told a_this_st a_this_text v_this_letters v_this_place v_this_token v_this_value v_this_begins a_this_read v_this_clauses a_this_ahead v_this_undoMany a_this_isKept a_this_kept v_this_fewestMany v_this_fewestSets v_this_fewestSet v_this_fewestMost a_this_aside a_this_seens v_this_seenMany v_this_told v_this_st) 128 [(0, .ref a_this), (2, .int x2), (3, .int x3), (4, .int x4), (5, .int x5), (6, .int x6), (7, .int x7), (8, .int x8), (9, .int x9), (10, .int x10)] [] := by
    intro k_60 hk_60 n
    induction n with
    | zero => intro x2 x3 x4 x5 x6 x7 x8 x9 x10 hf; exact nn_ hf
    | succ n ih => exact fun x2 x3 x4 x5 x6 x7 x8 x9 x10 hf => hs_128 k_60 hk_60 _ ih x2 x3 x4 x5 x6 x7 x8 x9 x10 hf
  have hb_120 : ∀ (k_60 : Int32 → Int32 → Int32 → Int32 → Int32 → Int32 → Option (Int32)), (∀ (x2 : Int32) (x3 : Int32) (x4 : Int32) (x5 : Int32) (x6 : Int32) (x7 : Int32), k_60 x2 x3 x4 x5 x6 x7 = some res → Z (w_X9_win cyI cyZ cyW a_this a_this_told a_this_st a_this_text v_this_letters v_this_place v_this_token v_this_value v_this_begins a_this_read v_this_clauses a_this_ahead v_this_undoMany a_this_isKept a_this_kept v_this_fewestMany v_this_fewestSets v_this_fewestSet v_this_fewestMost a_this_aside a_this_seens v_this_seenMany v_this_told v_this_st) 60 [(0, .ref a_this), (2, .int x2), (3, .int x3), (4, .int x4), (5, .int x5), (6, .int x6), (7, .int x7)] []) → ∀ (x2 : Int32) (x3 : Int32) (x4 : Int32) (x5 : Int32) (x6 : Int32) (x7 : Int32) (s0 : Int32), f_X9_win_b120 v_this_told v_this_st k_60 x2 x3 x4 x5 x6 x7 s0 = some res → Z (w_X9_win cyI cyZ cyW a_this a_this_told a_this_st a_this_text v_this_letters v_this_place v_this_token v_this_value v_this_begins a_this_read v_this_clauses a_this_ahead v_this_undoMany a_this_isKept a_this_kept v_this_fewestMany v_this_fewestSets v_this_fewestSet v_this_fewestMost a_this_aside a_this_seens v_this_seenMany v_this_told v_this_st) 120 [(0, .ref a_this), (2, .int x2), (3, .int x3), (4, .int x4), (5, .int x5), (6, .int x6), (7, .int x7)] [.int s0] := by
    subst hZ
    intro k_60 hk_60 x2 x3 x4 x5 x6 x7 s0 hf
    refine r_istore (lv' := [(8, .int s0), (0, .ref a_this), (2, .int x2), (3, .int x3), (4, .int x4), (5, .int x5), (6, .int x6), (7, .int x7)]) C dX9_win_120 (by decide) rfl ?_
    refine r_iconst C 0 dX9_win_122 (by decide) ?_
    refine r_istore (lv' := [(9, .int 0), (8, .int s0), (0, .ref a_this), (2, .int x2), (3, .int x3), (4, .int x4), (5, .int x5), (6, .int x6), (7, .int x7)]) C dX9_win_123 (by decide) rfl ?_
    refine r_iconst C 0 dX9_win_125 (by decide) ?_
    refine r_istore (lv' := [(10, .int 0), (9, .int 0), (8, .int s0), (0, .ref a_this), (2, .int x2), (3, .int x3), (4, .int x4), (5, .int x5), (6, .int x6), (7, .int x7)]) C dX9_win_126 (by decide) rfl ?_
    exact ST_lv [3, 4, 5, 6, 7, 8, 9, 2, 1, 0] rfl (hb_128 k_60 hk_60 5000 x2 x3 x4 x5 x6 x7 s0 0 0 hf)
  have hb_119 : ∀ (k_60 : Int32 → Int32 → Int32 → Int32 → Int32 → Int32 → Option (Int32)), (∀ (x2 : Int32) (x3 : Int32) (x4 : Int32) (x5 : Int32) (x6 : Int32) (x7 : Int32), k_60 x2 x3 x4 x5 x6 x7 = some res → Z (w_X9_win cyI cyZ cyW a_this a_this_told a_this_st a_this_text v_this_letters v_this_place v_this_token v_this_value v_this_begins a_this_read v_this_clauses a_this_ahead v_this_undoMany a_this_isKept a_this_kept v_this_fewestMany v_this_fewestSets v_this_fewestSet v_this_fewestMost a_this_aside a_this_seens v_this_seenMany v_this_told v_this_st) 60 [(0, .ref a_this), (2, .int x2), (3, .int x3), (4, .int x4), (5, .int x5), (6, .int x6), (7, .int x7)] []) → ∀ (x2 : Int32) (x3 : Int32) (x4 : Int32) (x5 : Int32) (x6 : Int32) (x7 : Int32), f_X9_win_b119 v_this_told v_this_st k_60 x2 x3 x4 x5 x6 x7 = some res → Z (w_X9_win cyI cyZ cyW a_this a_this_told a_this_st a_this_text v_this_letters v_this_place v_this_token v_this_value v_this_begins a_this_read v_this_clauses a_this_ahead v_this_undoMany a_this_isKept a_this_kept v_this_fewestMany v_this_fewestSets v_this_fewestSet v_this_fewestMost a_this_aside a_this_seens v_this_seenMany v_this_told v_this_st) 119 [(0, .ref a_this), (2, .int x2), (3, .int x3), (4, .int x4), (5, .int x5), (6, .int x6), (7, .int x7)] [] := by
    subst hZ
    intro k_60 hk_60 x2 x3 x4 x5 x6 x7 hf
    refine r_iconst C 0 dX9_win_119 (by decide) ?_
    exact ST_lv [0, 1, 2, 3, 4, 5, 6] rfl (hb_120 k_60 hk_60 x2 x3 x4 x5 x6 x7 0 hf)
  have hs_60 : ∀ (k_60 : Int32 → Int32 → Int32 → Int32 → Int32 → Int32 → Option (Int32)), (∀ (x2 : Int32) (x3 : Int32) (x4 : Int32) (x5 : Int32) (x6 : Int32) (x7 : Int32), k_60 x2 x3 x4 x5 x6 x7 = some res → Z (w_X9_win cyI cyZ cyW a_this a_this_told a_this_st a_this_text v_this_letters v_this_place v_this_token v_this_value v_this_begins a_this_read v_this_clauses a_this_ahead v_this_undoMany a_this_isKept a_this_kept v_this_fewestMany v_this_fewestSets v_this_fewestSet v_this_fewestMost a_this_aside a_this_seens v_this_seenMany v_this_told v_this_st) 60 [(0, .ref a_this), (2, .int x2), (3, .int x3), (4, .int x4), (5, .int x5), (6, .int x6), (7, .int x7)] []) → ∀ (x2 : Int32) (x3 : Int32) (x4 : Int32) (x5 : Int32) (x6 : Int32) (x7 : Int32), f_X9_win_s60 v_this_told v_this_st k_60 x2 x3 x4 x5 x6 x7 = some res → Z (w_X9_win cyI cyZ cyW a_this a_this_told a_this_st a_this_text v_this_letters v_this_place v_this_token v_this_value v_this_begins a_this_read v_this_clauses a_this_ahead v_this_undoMany a_this_isKept a_this_kept v_this_fewestMany v_this_fewestSets v_this_fewestSet v_this_fewestMost a_this_aside a_this_seens v_this_seenMany v_this_told v_this_st) 60 [(0, .ref a_this), (2, .int x2), (3, .int x3), (4, .int x4), (5, .int x5), (6, .int x6), (7, .int x7)] [] := by
    subst hZ
    intro k_60 hk_60 x2 x3 x4 x5 x6 x7 hf
    refine r_iload C dX9_win_60 6 rfl ?_
    refine r_iconst C 1 dX9_win_62 (by decide) ?_
    refine r_aload_n C dX9_win_63 rfl 0 rfl ?_
    refine r_get C in_X9_win_X9 0 rfl rfl 0 (by decide) lk_X9_win_1 rfl rfl dX9_win_64 ?_
    refine r_iconst C 0 dX9_win_67 (by decide) ?_
    refine r_iald_k C 0 1 0 rfl rfl (kk_ 0 37 (by decide) (by decide)) dX9_win_68 ?_
    refine r_ishl C dX9_win_69 ?_
    refine r_icmp_ge C 205 dX9_win_70 (by decide) hf (fun hf => ?_) (fun hf => ?_)
    · refine r_iload C dX9_win_205 4 rfl ?_
      refine r_if_ge C 214 dX9_win_207 (by decide) hf (fun hf => ?_) (fun hf => ?_)
      · refine r_iload_n C dX9_win_214 rfl 1 rfl ?_
        refine r_if_ne C 223 dX9_win_215 (by decide) hf (fun hf => ?_) (fun hf => ?_)
        · refine r_iload C dX9_win_223 4 rfl ?_
          rw [← Option.some.inj hf]
          exact r_iret C hr hlk dX9_win_225
        · refine r_iload C dX9_win_218 5 rfl ?_
          refine r_goto C 225 dX9_win_220 (by decide) ?_
          rw [← Option.some.inj hf]
          exact r_iret C hr hlk dX9_win_225
      · refine r_iconst C (-1) dX9_win_210 (by decide) ?_
        refine r_goto C 225 dX9_win_211 (by decide) ?_
        rw [← Option.some.inj hf]
        exact r_iret C hr hlk dX9_win_225
    · refine r_iload C dX9_win_73 6 rfl ?_
      refine r_iload C dX9_win_75 3 rfl ?_
      refine r_iconst C (-1) dX9_win_77 (by decide) ?_
      refine r_ixor C dX9_win_78 ?_
      refine r_iand C dX9_win_79 ?_
      refine r_if_ne C 119 dX9_win_80 (by decide) hf (fun hf => ?_) (fun hf => ?_)
      · exact ST_lv [0, 1, 2, 3, 4, 5, 6] rfl (hb_119 k_60 hk_60 x2 x3 x4 x5 x6 x7 hf)
      · refine r_aload_n C dX9_win_83 rfl 0 rfl ?_
        refine r_iload_n C dX9_win_84 rfl 2 rfl ?_
        refine r_iload C dX9_win_85 6 rfl ?_
        refine r_ior C dX9_win_87 ?_
        obtain ⟨y11, hy12, hf⟩ := bd_some hf
        refine r_roV_i (As := [.int (x3 ||| x7)]) (rest := []) C (c_X9_weights l D cyI cyZ cyW a_this a_this_told a_this_st a_this_text v_this_letters v_this_place v_this_token v_this_value v_this_begins a_this_read v_this_clauses a_this_ahead v_this_undoMany a_this_isKept a_this_kept v_this_fewestMany v_this_fewestSets v_this_fewestSet v_this_fewestMost a_this_aside a_this_seens v_this_seenMany v_this_st v_this_told (x3 ||| x7) y11 hy12) gX9_win_X9_weights rfl hyV_X9_weights ⟨rfl, rfl, (Nat.le_of_ble_eq_true rfl), (Nat.le_of_ble_eq_true rfl)⟩ rfl 0 rfl rfl [0, 2, 1] rfl rfl rfl (Nat.le_of_ble_eq_true rfl) ⟨Nat.zero_le _, Nat.zero_le _⟩ dX9_win_88 ?_
        refine r_aload_n C dX9_win_91 rfl 0 rfl ?_
        refine r_get C in_X9_win_X9 0 rfl rfl 0 (by decide) lk_X9_win_1 rfl rfl dX9_win_92 ?_
        refine r_iconst C 1 dX9_win_95 (by decide) ?_
        refine r_iald_k C 1 1 0 rfl rfl (kk_ 1 37 (by decide) (by decide)) dX9_win_96 ?_
        refine r_icmp_lt C 119 dX9_win_97 (by decide) hf (fun hf => ?_) (fun hf => ?_)
        · exact ST_lv [0, 1, 2, 3, 4, 5, 6] rfl (hb_119 k_60 hk_60 x2 x3 x4 x5 x6 x7 hf)
        · refine r_aload_n C dX9_win_100 rfl 0 rfl ?_
          refine r_iload_n C dX9_win_101 rfl 2 rfl ?_
          refine r_iload C dX9_win_102 6 rfl ?_
          refine r_ior C dX9_win_104 ?_
          obtain ⟨y13, hy14, hf⟩ := bd_some hf
          refine r_roV_i (As := [.int (x3 ||| x7)]) (rest := []) C (c_X9_warmBy l D cyI cyZ cyW a_this a_this_told a_this_st a_this_text v_this_letters v_this_place v_this_token v_this_value v_this_begins a_this_read v_this_clauses a_this_ahead v_this_undoMany a_this_isKept a_this_kept v_this_fewestMany v_this_fewestSets v_this_fewestSet v_this_fewestMost a_this_aside a_this_seens v_this_seenMany v_this_told (x3 ||| x7) y13 hy14) gX9_win_X9_warmBy rfl hyV_X9_warmBy ⟨rfl, rfl, (Nat.le_of_ble_eq_true rfl), (Nat.le_of_ble_eq_true rfl)⟩ rfl 0 rfl rfl [0, 1] rfl rfl rfl (Nat.le_of_ble_eq_true rfl) ⟨Nat.zero_le _, Nat.zero_le _⟩ dX9_win_105 ?_
          refine r_aload_n C dX9_win_108 rfl 0 rfl ?_
          obtain ⟨y15, hy16, hf⟩ := bd_some hf
          refine r_roV_i (As := []) (rest := [.int y13]) C (c_X9_coldNow l D cyI cyZ cyW a_this a_this_told a_this_st a_this_text v_this_letters v_this_place v_this_token v_this_value v_this_begins a_this_read v_this_clauses a_this_ahead v_this_undoMany a_this_isKept a_this_kept v_this_fewestMany v_this_fewestSets v_this_fewestSet v_this_fewestMost a_this_aside a_this_seens v_this_seenMany v_this_told v_this_st y15 hy16) gX9_win_X9_coldNow rfl hyV_X9_coldNow ⟨rfl, rfl, (Nat.le_of_ble_eq_true rfl), (Nat.le_of_ble_eq_true rfl)⟩ rfl 0 rfl rfl [0, 1, 2] rfl rfl rfl (Nat.le_of_ble_eq_true rfl) ⟨Nat.zero_le _, Nat.zero_le _⟩ dX9_win_109 ?_
          refine r_icmp_lt C 119 dX9_win_112 (by decide) hf (fun hf => ?_) (fun hf => ?_)
          · exact ST_lv [0, 1, 2, 3, 4, 5, 6] rfl (hb_119 k_60 hk_60 x2 x3 x4 x5 x6 x7 hf)
          · refine r_iconst C 1 dX9_win_115 (by decide) ?_
            refine r_goto C 120 dX9_win_116 (by decide) ?_
            exact ST_lv [0, 1, 2, 3, 4, 5, 6] rfl (hb_120 k_60 hk_60 x2 x3 x4 x5 x6 x7 1 hf)
  have hb_60 : ∀ (n : Nat) (x2 : Int32) (x3 : Int32) (x4 : Int32) (x5 : Int32) (x6 : Int32) (x7 : Int32), f_X9_win_b60 v_this_told v_this_st n x2 x3 x4 x5 x6 x7 = some res → Z (w_X9_win cyI cyZ cyW a_this a_this_told a_this_st a_this_text v_this_letters v_this_place v_this_token v_this_value v_this_begins a_this_read v_this_clauses a_this_ahead v_this_undoMany a_this_isKept a_this_kept v_this_fewestMany v_this_fewestSets v_this_fewestSet v_this_fewestMost a_this_aside a_this_seens v_this_seenMany v_this_told v_this_st) 60 [(0, .ref a_this), (2, .int x2), (3, .int x3), (4, .int x4), (5, .int x5), (6, .int x6), (7, .int x7)] [] := by
    intro  n
    induction n with
    | zero => intro x2 x3 x4 x5 x6 x7 hf; exact nn_ hf
    | succ n ih => exact fun x2 x3 x4 x5 x6 x7 hf => hs_60 _ ih x2 x3 x4 x5 x6 x7 hf
  subst hZ
  refine r_aload_n C dX9_win_0 rfl 0 rfl ?_
  refine r_iload_n C dX9_win_1 rfl 1 rfl ?_
  obtain ⟨y1, hy2, hf⟩ := bd_some hf
  refine r_roV_i (As := [.int x1]) (rest := []) C (c_X9_isFamily l D cyI cyZ cyW a_this a_this_told a_this_st a_this_text v_this_letters v_this_place v_this_token v_this_value v_this_begins a_this_read v_this_clauses a_this_ahead v_this_undoMany a_this_isKept a_this_kept v_this_fewestMany v_this_fewestSets v_this_fewestSet v_this_fewestMost a_this_aside a_this_seens v_this_seenMany v_this_told x1 y1 hy2) gX9_win_X9_isFamily rfl hyV_X9_isFamily ⟨rfl, rfl, (Nat.le_of_ble_eq_true rfl), (Nat.le_of_ble_eq_true rfl)⟩ rfl 0 rfl rfl [0, 1] rfl rfl rfl (Nat.le_of_ble_eq_true rfl) ⟨Nat.zero_le _, Nat.zero_le _⟩ dX9_win_2 ?_
  refine r_if_ne C 11 dX9_win_5 (by decide) hf (fun hf => ?_) (fun hf => ?_)
  · refine r_iload_n C dX9_win_11 rfl 2 rfl ?_
    refine r_i2l C dX9_win_12 ?_
    refine r_lconst C 0 dX9_win_13 (by decide) ?_
    refine r_lconst C 1 dX9_win_14 (by decide) ?_
    obtain ⟨y3, hy4, hf⟩ := bd_some hf
    refine r_roS_i (As := [.long (Int32.toInt64 x2), .long 0, .long 1]) (rest := []) C (c_X9_in l D cyI cyZ cyW (Int32.toInt64 x2) 0 1 y3 hy4) gX9_win_X9_in rfl hyS_X9_in ⟨rfl, rfl, (Nat.le_of_ble_eq_true rfl), (Nat.le_of_ble_eq_true rfl)⟩ rfl [] rfl rfl rfl (Nat.le_of_ble_eq_true rfl) ⟨Nat.zero_le _, Nat.zero_le _⟩ dX9_win_15 ?_
    refine r_if_ne C 24 dX9_win_18 (by decide) hf (fun hf => ?_) (fun hf => ?_)
    · refine r_aload_n C dX9_win_24 rfl 0 rfl ?_
      refine r_iload_n C dX9_win_25 rfl 1 rfl ?_
      obtain ⟨y5, hy6, hf⟩ := bd_some hf
      refine r_roV_i (As := [.int x1]) (rest := []) C (c_X9_isFrozen l D cyI cyZ cyW a_this a_this_told a_this_st a_this_text v_this_letters v_this_place v_this_token v_this_value v_this_begins a_this_read v_this_clauses a_this_ahead v_this_undoMany a_this_isKept a_this_kept v_this_fewestMany v_this_fewestSets v_this_fewestSet v_this_fewestMost a_this_aside a_this_seens v_this_seenMany v_this_st x1 y5 hy6) gX9_win_X9_isFrozen rfl hyV_X9_isFrozen ⟨rfl, rfl, (Nat.le_of_ble_eq_true rfl), (Nat.le_of_ble_eq_true rfl)⟩ rfl 0 rfl rfl [0, 2] rfl rfl rfl (Nat.le_of_ble_eq_true rfl) ⟨Nat.zero_le _, Nat.zero_le _⟩ dX9_win_26 ?_
      refine r_if_eq C 35 dX9_win_29 (by decide) hf (fun hf => ?_) (fun hf => ?_)
      · refine r_aload_n C dX9_win_35 rfl 0 rfl ?_
        refine r_iload_n C dX9_win_36 rfl 1 rfl ?_
        obtain ⟨y7, hy8, hf⟩ := bd_some hf
        refine r_roV_i (As := [.int x1]) (rest := []) C (c_X9_doneUp l D cyI cyZ cyW a_this a_this_told a_this_st a_this_text v_this_letters v_this_place v_this_token v_this_value v_this_begins a_this_read v_this_clauses a_this_ahead v_this_undoMany a_this_isKept a_this_kept v_this_fewestMany v_this_fewestSets v_this_fewestSet v_this_fewestMost a_this_aside a_this_seens v_this_seenMany v_this_told v_this_st x1 y7 hy8) gX9_win_X9_doneUp rfl hyV_X9_doneUp ⟨rfl, rfl, (Nat.le_of_ble_eq_true rfl), (Nat.le_of_ble_eq_true rfl)⟩ rfl 0 rfl rfl [0, 1, 2] rfl rfl rfl (Nat.le_of_ble_eq_true rfl) ⟨Nat.zero_le _, Nat.zero_le _⟩ dX9_win_37 ?_
        refine r_istore_n (lv' := [(3, .int y7), (0, .ref a_this), (1, .int x1), (2, .int x2)]) C dX9_win_40 rfl (by decide) rfl ?_
        refine r_aload_n C dX9_win_41 rfl 1 rfl ?_
        obtain ⟨y9, hy10, hf⟩ := bd_some hf
        refine r_roV_i (As := []) (rest := []) C (c_X9_alive l D cyI cyZ cyW a_this a_this_told a_this_st a_this_text v_this_letters v_this_place v_this_token v_this_value v_this_begins a_this_read v_this_clauses a_this_ahead v_this_undoMany a_this_isKept a_this_kept v_this_fewestMany v_this_fewestSets v_this_fewestSet v_this_fewestMost a_this_aside a_this_seens v_this_seenMany v_this_told v_this_st y9 hy10) gX9_win_X9_alive rfl hyV_X9_alive ⟨rfl, rfl, (Nat.le_of_ble_eq_true rfl), (Nat.le_of_ble_eq_true rfl)⟩ rfl 0 rfl rfl [0, 1, 2] rfl rfl rfl (Nat.le_of_ble_eq_true rfl) ⟨Nat.zero_le _, Nat.zero_le _⟩ dX9_win_42 ?_
        refine r_iload_n C dX9_win_45 rfl 0 rfl ?_
        refine r_iconst C (-1) dX9_win_46 (by decide) ?_
        refine r_ixor C dX9_win_47 ?_
        refine r_iand C dX9_win_48 ?_
        refine r_istore (lv' := [(4, .int (y9 &&& (y7 ^^^ (-1)))), (3, .int y7), (0, .ref a_this), (1, .int x1), (2, .int x2)]) C dX9_win_49 (by decide) rfl ?_
        refine r_iconst C (-1) dX9_win_51 (by decide) ?_
        refine r_istore (lv' := [(5, .int (-1)), (4, .int (y9 &&& (y7 ^^^ (-1)))), (3, .int y7), (0, .ref a_this), (1, .int x1), (2, .int x2)]) C dX9_win_52 (by decide) rfl ?_
        refine r_iconst C 0 dX9_win_54 (by decide) ?_
        refine r_istore (lv' := [(6, .int 0), (5, .int (-1)), (4, .int (y9 &&& (y7 ^^^ (-1)))), (3, .int y7), (0, .ref a_this), (1, .int x1), (2, .int x2)]) C dX9_win_55 (by decide) rfl ?_
        refine r_iconst C 0 dX9_win_57 (by decide) ?_
        refine r_istore (lv' := [(7, .int 0), (6, .int 0), (5, .int (-1)), (4, .int (y9 &&& (y7 ^^^ (-1)))), (3, .int y7), (0, .ref a_this), (1, .int x1), (2, .int x2)]) C dX9_win_58 (by decide) rfl ?_
        exact ST_lv [5, 7, 4, 3, 2, 1, 0] rfl (hb_60 5000 x2 y7 (y9 &&& (y7 ^^^ (-1))) (-1) 0 0 hf)
      · refine r_bipush C (-4) dX9_win_32 (by decide) ?_
        rw [← Option.some.inj hf]
        exact r_iret C hr hlk dX9_win_34
    · refine r_bipush C (-3) dX9_win_21 (by decide) ?_
      rw [← Option.some.inj hf]
      exact r_iret C hr hlk dX9_win_23
  · refine r_bipush C (-2) dX9_win_8 (by decide) ?_
    rw [← Option.some.inj hf]
    exact r_iret C hr hlk dX9_win_10

theorem lk_X9_block_1 : Cond.fieldLink RX9 7 "ParishCoatModel" "told" "[I" ∈ wsX9_block := List.mem_of_getElem? (i := 1) rfl
theorem in_X9_block_X9 : ∀ w ∈ u_ws RX9 TX9 21, w ∈ wsX9_block := fun _ h => List.mem_cons_of_mem _ (List.mem_append_right _ h)
def f_X9_block_b114 (v_this_told : Nat → Int32) (v_this_st : Nat → Int32) (k_32 : Int32 → Int32 → Int32 → Int32 → Option (Int32)) (x1 : Int32) (x2 : Int32) (x4 : Int32) (s0 : Int32) : Option (Int32) := k_32 x1 x2 s0 (x4 + 1)
def f_X9_block_b113 (v_this_told : Nat → Int32) (v_this_st : Nat → Int32) (k_32 : Int32 → Int32 → Int32 → Int32 → Option (Int32)) (x1 : Int32) (x2 : Int32) (x3 : Int32) (x4 : Int32) : Option (Int32) := f_X9_block_b114 v_this_told v_this_st k_32 x1 x2 x4 x3
def f_X9_block_b108 (v_this_told : Nat → Int32) (v_this_st : Nat → Int32) (k_32 : Int32 → Int32 → Int32 → Int32 → Option (Int32)) (x1 : Int32) (x2 : Int32) (x4 : Int32) : Option (Int32) := f_X9_block_b114 v_this_told v_this_st k_32 x1 x2 x4 x4
def f_X9_block_b85 (v_this_told : Nat → Int32) (v_this_st : Nat → Int32) (k_32 : Int32 → Int32 → Int32 → Int32 → Option (Int32)) (x1 : Int32) (x2 : Int32) (x3 : Int32) (x4 : Int32) (s0 : Int32) : Option (Int32) := if s0 = 0 then (f_X9_block_b113 v_this_told v_this_st k_32 x1 x2 x3 x4) else (if x3 < 0 then (f_X9_block_b108 v_this_told v_this_st k_32 x1 x2 x4) else ((f_X9_ones x4).bind fun y13 => (f_X9_ones x3).bind fun y15 => if y15 ≤ y13 then (f_X9_block_b113 v_this_told v_this_st k_32 x1 x2 x3 x4) else (f_X9_block_b108 v_this_told v_this_st k_32 x1 x2 x4)))
def f_X9_block_b84 (v_this_told : Nat → Int32) (v_this_st : Nat → Int32) (k_32 : Int32 → Int32 → Int32 → Int32 → Option (Int32)) (x1 : Int32) (x2 : Int32) (x3 : Int32) (x4 : Int32) : Option (Int32) := f_X9_block_b85 v_this_told v_this_st k_32 x1 x2 x3 x4 0
def f_X9_block_s32 (v_this_told : Nat → Int32) (v_this_st : Nat → Int32) (k_32 : Int32 → Int32 → Int32 → Int32 → Option (Int32)) (x1 : Int32) (x2 : Int32) (x3 : Int32) (x4 : Int32) : Option (Int32) := if ((1 : Int32) <<< ((v_this_told 0) &&& 31)) ≤ x4 then (some (x3)) else (if (x4 &&& (x2 ^^^ (-1))) = 0 then ((f_X9_has x4 x1).bind fun y7 => if y7 = 0 then ((f_X9_warmBy v_this_told (x2 &&& (x4 ^^^ (-1)))).bind fun y9 => (f_X9_coldNow v_this_told v_this_st).bind fun y11 => if y11 ≤ y9 then (f_X9_block_b84 v_this_told v_this_st k_32 x1 x2 x3 x4) else (f_X9_block_b85 v_this_told v_this_st k_32 x1 x2 x3 x4 1)) else (f_X9_block_b84 v_this_told v_this_st k_32 x1 x2 x3 x4)) else (f_X9_block_b84 v_this_told v_this_st k_32 x1 x2 x3 x4))
def f_X9_block_b32 (v_this_told : Nat → Int32) (v_this_st : Nat → Int32) (n : Nat) : Int32 → Int32 → Int32 → Int32 → Option (Int32) := it_ (f_X9_block_s32 v_this_told v_this_st ) (fun _ _ _ _ => none) n
def f_X9_block (v_this_told : Nat → Int32) (v_this_st : Nat → Int32) (x1 : Int32) : Option (Int32) := (f_X9_isFamily v_this_told x1).bind fun y1 => if y1 = 0 then (some ((-2))) else ((f_X9_isFrozen v_this_st x1).bind fun y3 => if y3 = 0 then ((f_X9_alive v_this_told v_this_st).bind fun y5 => f_X9_block_b32 v_this_told v_this_st 5000 x1 y5 (-1) 0) else (some ((-4))))
def w_X9_block (cyI cyZ cyW : ClassId) (a_this : Nat) (a_this_told : Nat) (a_this_st : Nat) (a_this_text : Nat) (v_this_letters : Int32) (v_this_place : Int32) (v_this_token : Int32) (v_this_value : Int32) (v_this_begins : Int32) (a_this_read : Nat) (v_this_clauses : Int32) (a_this_ahead : Nat) (v_this_undoMany : Int32) (a_this_isKept : Nat) (a_this_kept : Nat) (v_this_fewestMany : Int32) (v_this_fewestSets : Int32) (v_this_fewestSet : Int32) (v_this_fewestMost : Int32) (a_this_aside : Nat) (a_this_seens : Nat) (v_this_seenMany : Int32) (v_this_told : Nat → Int32) (v_this_st : Nat → Int32) : va_W := [(a_this, .inr (9, [.ref a_this_told, .ref a_this_st, .ref a_this_text, .int v_this_letters, .int v_this_place, .int v_this_token, .int v_this_value, .int v_this_begins, .ref a_this_read, .int v_this_clauses, .ref a_this_ahead, .int v_this_undoMany, .ref a_this_isKept, .ref a_this_kept, .int v_this_fewestMany, .int v_this_fewestSets, .int v_this_fewestSet, .int v_this_fewestMost, .ref a_this_aside, .ref a_this_seens, .int v_this_seenMany])), (a_this_told, .inl (cyI, 37, .inl v_this_told)), (a_this_st, .inl (cyI, 15, .inl v_this_st))]
set_option maxHeartbeats 4000000 in
set_option maxRecDepth 100000 in
theorem c_X9_block (l : Launch) (D : va_G) (cyI cyZ cyW : ClassId) (a_this : Nat) (a_this_told : Nat) (a_this_st : Nat) (a_this_text : Nat) (v_this_letters : Int32) (v_this_place : Int32) (v_this_token : Int32) (v_this_value : Int32) (v_this_begins : Int32) (a_this_read : Nat) (v_this_clauses : Int32) (a_this_ahead : Nat) (v_this_undoMany : Int32) (a_this_isKept : Nat) (a_this_kept : Nat) (v_this_fewestMany : Int32) (v_this_fewestSets : Int32) (v_this_fewestSet : Int32) (v_this_fewestMost : Int32) (a_this_aside : Nat) (a_this_seens : Nat) (v_this_seenMany : Int32) (v_this_told : Nat → Int32) (v_this_st : Nat → Int32) (x1 : Int32) (res : Int32) (hf : f_X9_block v_this_told v_this_st x1 = some res) : ∀ sz, Met l yX9_block wsX9_block { frames := 3, cells := 0, slots := 0, locals := 63 } (PCx D (tyG cyI cyZ cyW) [.ref a_this, .int x1] (w_X9_block cyI cyZ cyW a_this a_this_told a_this_st a_this_text v_this_letters v_this_place v_this_token v_this_value v_this_begins a_this_read v_this_clauses a_this_ahead v_this_undoMany a_this_isKept a_this_kept v_this_fewestMany v_this_fewestSets v_this_fewestSet v_this_fewestMost a_this_aside a_this_seens v_this_seenMany v_this_told v_this_st) sz) (QI D (tyG cyI cyZ cyW) (w_X9_block cyI cyZ cyW a_this a_this_told a_this_st a_this_text v_this_letters v_this_place v_this_token v_this_value v_this_begins a_this_read v_this_clauses a_this_ahead v_this_undoMany a_this_isKept a_this_kept v_this_fewestMany v_this_fewestSets v_this_fewestSet v_this_fewestMost a_this_aside a_this_seens v_this_seenMany v_this_told v_this_st) sz res (w_X9_block cyI cyZ cyW a_this a_this_told a_this_st a_this_text v_this_letters v_this_place v_this_token v_this_value v_this_begins a_this_read v_this_clauses a_this_ahead v_this_undoMany a_this_isKept a_this_kept v_this_fewestMany v_this_fewestSets v_this_fewestSet v_this_fewestMost a_this_aside a_this_seens v_this_seenMany v_this_told v_this_st)) 0 0 (va_A (w_X9_block cyI cyZ cyW a_this a_this_told a_this_st a_this_text v_this_letters v_this_place v_this_token v_this_value v_this_begins a_this_read v_this_clauses a_this_ahead v_this_undoMany a_this_isKept a_this_kept v_this_fewestMany v_this_fewestSets v_this_fewestSet v_this_fewestMost a_this_aside a_this_seens v_this_seenMany v_this_told v_this_st) sz) := by
  intro sz
  refine met_of (cc := cX9_block) (maxL := 6) (ret := (some .int)) (lv0 := [(0, .ref a_this), (1, .int x1)]) (by decide) rfl ⟨(Nat.le_of_ble_eq_true rfl), rfl⟩ ?_
  intro p e s m below meth c C hr hlk hnm hsz
  subst hsz
  have C : CX p s m _ c 6 cX9_block RX9 wsX9_block D (tyG cyI cyZ cyW) _ := C
  obtain ⟨Z, hZ⟩ : ∃ Z : va_W → Nat → LV → List Value → Prop, Z = ST p l e { frames := 3, cells := 0, slots := 0, locals := 63 } s m [.ref a_this, .int x1].toArray below meth c 6 D (va_A (w_X9_block cyI cyZ cyW a_this a_this_told a_this_st a_this_text v_this_letters v_this_place v_this_token v_this_value v_this_begins a_this_read v_this_clauses a_this_ahead v_this_undoMany a_this_isKept a_this_kept v_this_fewestMany v_this_fewestSets v_this_fewestSet v_this_fewestMost a_this_aside a_this_seens v_this_seenMany v_this_told v_this_st) s.heap.size) (MQ below (QI D (tyG cyI cyZ cyW) (w_X9_block cyI cyZ cyW a_this a_this_told a_this_st a_this_text v_this_letters v_this_place v_this_token v_this_value v_this_begins a_this_read v_this_clauses a_this_ahead v_this_undoMany a_this_isKept a_this_kept v_this_fewestMany v_this_fewestSets v_this_fewestSet v_this_fewestMost a_this_aside a_this_seens v_this_seenMany v_this_told v_this_st) s.heap.size res (w_X9_block cyI cyZ cyW a_this a_this_told a_this_st a_this_text v_this_letters v_this_place v_this_token v_this_value v_this_begins a_this_read v_this_clauses a_this_ahead v_this_undoMany a_this_isKept a_this_kept v_this_fewestMany v_this_fewestSets v_this_fewestSet v_this_fewestMost a_this_aside a_this_seens v_this_seenMany v_this_told v_this_st)) [.ref a_this, .int x1].toArray s 0 0 (va_A (w_X9_block cyI cyZ cyW a_this a_this_told a_this_st a_this_text v_this_letters v_this_place v_this_token v_this_value v_this_begins a_this_read v_this_clauses a_this_ahead v_this_undoMany a_this_isKept a_this_kept v_this_fewestMany v_this_fewestSets v_this_fewestSet v_this_fewestMost a_this_aside a_this_seens v_this_seenMany v_this_told v_this_st) s.heap.size)) 0 0 := ⟨_, rfl⟩
  have hb_114 : ∀ (k_32 : Int32 → Int32 → Int32 → Int32 → Option (Int32)), (∀ (x1 : Int32) (x2 : Int32) (x3 : Int32) (x4 : Int32), k_32 x1 x2 x3 x4 = some res → Z (w_X9_block cyI cyZ cyW a_this a_this_told a_this_st a_this_text v_this_letters v_this_place v_this_token v_this_value v_this_begins a_this_read v_this_clauses a_this_ahead v_this_undoMany a_this_isKept a_this_kept v_this_fewestMany v_this_fewestSets v_this_fewestSet v_this_fewestMost a_this_aside a_this_seens v_this_seenMany v_this_told v_this_st) 32 [(0, .ref a_this), (1, .int x1), (2, .int x2), (3, .int x3), (4, .int x4)] []) → ∀ (x1 : Int32) (x2 : Int32) (x4 : Int32) (s0 : Int32), f_X9_block_b114 v_this_told v_this_st k_32 x1 x2 x4 s0 = some res → Z (w_X9_block cyI cyZ cyW a_this a_this_told a_this_st a_this_text v_this_letters v_this_place v_this_token v_this_value v_this_begins a_this_read v_this_clauses a_this_ahead v_this_undoMany a_this_isKept a_this_kept v_this_fewestMany v_this_fewestSets v_this_fewestSet v_this_fewestMost a_this_aside a_this_seens v_this_seenMany v_this_told v_this_st) 114 [(0, .ref a_this), (1, .int x1), (2, .int x2), (4, .int x4)] [.int s0] := by
    subst hZ
    intro k_32 hk_32 x1 x2 x4 s0 hf
    refine r_istore_n (lv' := [(3, .int s0), (0, .ref a_this), (1, .int x1), (2, .int x2), (4, .int x4)]) C dX9_block_114 rfl (by decide) rfl ?_
    refine r_iinc (v := 1) (k := 4) (lv' := [(4, .int (x4 + 1)), (3, .int s0), (0, .ref a_this), (1, .int x1), (2, .int x2)]) C dX9_block_115 rfl (by decide) (by decide) rfl ?_
    refine r_goto C 32 dX9_block_118 (by decide) ?_
    exact ST_lv [2, 3, 4, 1, 0] rfl (hk_32 x1 x2 s0 (x4 + 1) hf)
  have hb_113 : ∀ (k_32 : Int32 → Int32 → Int32 → Int32 → Option (Int32)), (∀ (x1 : Int32) (x2 : Int32) (x3 : Int32) (x4 : Int32), k_32 x1 x2 x3 x4 = some res → Z (w_X9_block cyI cyZ cyW a_this a_this_told a_this_st a_this_text v_this_letters v_this_place v_this_token v_this_value v_this_begins a_this_read v_this_clauses a_this_ahead v_this_undoMany a_this_isKept a_this_kept v_this_fewestMany v_this_fewestSets v_this_fewestSet v_this_fewestMost a_this_aside a_this_seens v_this_seenMany v_this_told v_this_st) 32 [(0, .ref a_this), (1, .int x1), (2, .int x2), (3, .int x3), (4, .int x4)] []) → ∀ (x1 : Int32) (x2 : Int32) (x3 : Int32) (x4 : Int32), f_X9_block_b113 v_this_told v_this_st k_32 x1 x2 x3 x4 = some res → Z (w_X9_block cyI cyZ cyW a_this a_this_told a_this_st a_this_text v_this_letters v_this_place v_this_token v_this_value v_this_begins a_this_read v_this_clauses a_this_ahead v_this_undoMany a_this_isKept a_this_kept v_this_fewestMany v_this_fewestSets v_this_fewestSet v_this_fewestMost a_this_aside a_this_seens v_this_seenMany v_this_told v_this_st) 113 [(0, .ref a_this), (1, .int x1), (2, .int x2), (3, .int x3), (4, .int x4)] [] := by
    subst hZ
    intro k_32 hk_32 x1 x2 x3 x4 hf
    refine r_iload_n C dX9_block_113 rfl 3 rfl ?_
    exact ST_lv [0, 1, 2, 4] rfl (hb_114 k_32 hk_32 x1 x2 x4 x3 hf)
  have hb_108 : ∀ (k_32 : Int32 → Int32 → Int32 → Int32 → Option (Int32)), (∀ (x1 : Int32) (x2 : Int32) (x3 : Int32) (x4 : Int32), k_32 x1 x2 x3 x4 = some res → Z (w_X9_block cyI cyZ cyW a_this a_this_told a_this_st a_this_text v_this_letters v_this_place v_this_token v_this_value v_this_begins a_this_read v_this_clauses a_this_ahead v_this_undoMany a_this_isKept a_this_kept v_this_fewestMany v_this_fewestSets v_this_fewestSet v_this_fewestMost a_this_aside a_this_seens v_this_seenMany v_this_told v_this_st) 32 [(0, .ref a_this), (1, .int x1), (2, .int x2), (3, .int x3), (4, .int x4)] []) → ∀ (x1 : Int32) (x2 : Int32) (x4 : Int32), f_X9_block_b108 v_this_told v_this_st k_32 x1 x2 x4 = some res → Z (w_X9_block cyI cyZ cyW a_this a_this_told a_this_st a_this_text v_this_letters v_this_place v_this_token v_this_value v_this_begins a_this_read v_this_clauses a_this_ahead v_this_undoMany a_this_isKept a_this_kept v_this_fewestMany v_this_fewestSets v_this_fewestSet v_this_fewestMost a_this_aside a_this_seens v_this_seenMany v_this_told v_this_st) 108 [(0, .ref a_this), (1, .int x1), (2, .int x2), (4, .int x4)] [] := by
    subst hZ
    intro k_32 hk_32 x1 x2 x4 hf
    refine r_iload C dX9_block_108 3 rfl ?_
    refine r_goto C 114 dX9_block_110 (by decide) ?_
    exact ST_lv [0, 1, 2, 3] rfl (hb_114 k_32 hk_32 x1 x2 x4 x4 hf)
  have hb_85 : ∀ (k_32 : Int32 → Int32 → Int32 → Int32 → Option (Int32)), (∀ (x1 : Int32) (x2 : Int32) (x3 : Int32) (x4 : Int32), k_32 x1 x2 x3 x4 = some res → Z (w_X9_block cyI cyZ cyW a_this a_this_told a_this_st a_this_text v_this_letters v_this_place v_this_token v_this_value v_this_begins a_this_read v_this_clauses a_this_ahead v_this_undoMany a_this_isKept a_this_kept v_this_fewestMany v_this_fewestSets v_this_fewestSet v_this_fewestMost a_this_aside a_this_seens v_this_seenMany v_this_told v_this_st) 32 [(0, .ref a_this), (1, .int x1), (2, .int x2), (3, .int x3), (4, .int x4)] []) → ∀ (x1 : Int32) (x2 : Int32) (x3 : Int32) (x4 : Int32) (s0 : Int32), f_X9_block_b85 v_this_told v_this_st k_32 x1 x2 x3 x4 s0 = some res → Z (w_X9_block cyI cyZ cyW a_this a_this_told a_this_st a_this_text v_this_letters v_this_place v_this_token v_this_value v_this_begins a_this_read v_this_clauses a_this_ahead v_this_undoMany a_this_isKept a_this_kept v_this_fewestMany v_this_fewestSets v_this_fewestSet v_this_fewestMost a_this_aside a_this_seens v_this_seenMany v_this_told v_this_st) 85 [(0, .ref a_this), (1, .int x1), (2, .int x2), (3, .int x3), (4, .int x4)] [.int s0] := by
    subst hZ
    intro k_32 hk_32 x1 x2 x3 x4 s0 hf
    refine r_istore (lv' := [(5, .int s0), (0, .ref a_this), (1, .int x1), (2, .int x2), (3, .int x3), (4, .int x4)]) C dX9_block_85 (by decide) rfl ?_
    refine r_iload C dX9_block_87 0 rfl ?_
    refine r_if_eq C 113 dX9_block_89 (by decide) hf (fun hf => ?_) (fun hf => ?_)
    · exact ST_lv [1, 2, 3, 4, 5] rfl (hb_113 k_32 hk_32 x1 x2 x3 x4 hf)
    · refine r_iload_n C dX9_block_92 rfl 4 rfl ?_
      refine r_if_lt C 108 dX9_block_93 (by decide) hf (fun hf => ?_) (fun hf => ?_)
      · exact ST_lv [1, 2, 3, 5] rfl (hb_108 k_32 hk_32 x1 x2 x4 hf)
      · refine r_iload C dX9_block_96 5 rfl ?_
        obtain ⟨y13, hy14, hf⟩ := bd_some hf
        refine r_roS_i (As := [.int x4]) (rest := []) C (c_X9_ones l D cyI cyZ cyW x4 y13 hy14) gX9_block_X9_ones rfl hyS_X9_ones ⟨rfl, rfl, (Nat.le_of_ble_eq_true rfl), (Nat.le_of_ble_eq_true rfl)⟩ rfl [] rfl rfl rfl (Nat.le_of_ble_eq_true rfl) ⟨Nat.zero_le _, Nat.zero_le _⟩ dX9_block_98 ?_
        refine r_iload_n C dX9_block_101 rfl 4 rfl ?_
        obtain ⟨y15, hy16, hf⟩ := bd_some hf
        refine r_roS_i (As := [.int x3]) (rest := [.int y13]) C (c_X9_ones l D cyI cyZ cyW x3 y15 hy16) gX9_block_X9_ones rfl hyS_X9_ones ⟨rfl, rfl, (Nat.le_of_ble_eq_true rfl), (Nat.le_of_ble_eq_true rfl)⟩ rfl [] rfl rfl rfl (Nat.le_of_ble_eq_true rfl) ⟨Nat.zero_le _, Nat.zero_le _⟩ dX9_block_102 ?_
        refine r_icmp_ge C 113 dX9_block_105 (by decide) hf (fun hf => ?_) (fun hf => ?_)
        · exact ST_lv [1, 2, 3, 4, 5] rfl (hb_113 k_32 hk_32 x1 x2 x3 x4 hf)
        · exact ST_lv [1, 2, 3, 5] rfl (hb_108 k_32 hk_32 x1 x2 x4 hf)
  have hb_84 : ∀ (k_32 : Int32 → Int32 → Int32 → Int32 → Option (Int32)), (∀ (x1 : Int32) (x2 : Int32) (x3 : Int32) (x4 : Int32), k_32 x1 x2 x3 x4 = some res → Z (w_X9_block cyI cyZ cyW a_this a_this_told a_this_st a_this_text v_this_letters v_this_place v_this_token v_this_value v_this_begins a_this_read v_this_clauses a_this_ahead v_this_undoMany a_this_isKept a_this_kept v_this_fewestMany v_this_fewestSets v_this_fewestSet v_this_fewestMost a_this_aside a_this_seens v_this_seenMany v_this_told v_this_st) 32 [(0, .ref a_this), (1, .int x1), (2, .int x2), (3, .int x3), (4, .int x4)] []) → ∀ (x1 : Int32) (x2 : Int32) (x3 : Int32) (x4 : Int32), f_X9_block_b84 v_this_told v_this_st k_32 x1 x2 x3 x4 = some res → Z (w_X9_block cyI cyZ cyW a_this a_this_told a_this_st a_this_text v_this_letters v_this_place v_this_token v_this_value v_this_begins a_this_read v_this_clauses a_this_ahead v_this_undoMany a_this_isKept a_this_kept v_this_fewestMany v_this_fewestSets v_this_fewestSet v_this_fewestMost a_this_aside a_this_seens v_this_seenMany v_this_told v_this_st) 84 [(0, .ref a_this), (1, .int x1), (2, .int x2), (3, .int x3), (4, .int x4)] [] := by
    subst hZ
    intro k_32 hk_32 x1 x2 x3 x4 hf
    refine r_iconst C 0 dX9_block_84 (by decide) ?_
    exact ST_lv [0, 1, 2, 3, 4] rfl (hb_85 k_32 hk_32 x1 x2 x3 x4 0 hf)
  have hs_32 : ∀ (k_32 : Int32 → Int32 → Int32 → Int32 → Option (Int32)), (∀ (x1 : Int32) (x2 : Int32) (x3 : Int32) (x4 : Int32), k_32 x1 x2 x3 x4 = some res → Z (w_X9_block cyI cyZ cyW a_this a_this_told a_this_st a_this_text v_this_letters v_this_place v_this_token v_this_value v_this_begins a_this_read v_this_clauses a_this_ahead v_this_undoMany a_this_isKept a_this_kept v_this_fewestMany v_this_fewestSets v_this_fewestSet v_this_fewestMost a_this_aside a_this_seens v_this_seenMany v_this_told v_this_st) 32 [(0, .ref a_this), (1, .int x1), (2, .int x2), (3, .int x3), (4, .int x4)] []) → ∀ (x1 : Int32) (x2 : Int32) (x3 : Int32) (x4 : Int32), f_X9_block_s32 v_this_told v_this_st k_32 x1 x2 x3 x4 = some res → Z (w_X9_block cyI cyZ cyW a_this a_this_told a_this_st a_this_text v_this_letters v_this_place v_this_token v_this_value v_this_begins a_this_read v_this_clauses a_this_ahead v_this_undoMany a_this_isKept a_this_kept v_this_fewestMany v_this_fewestSets v_this_fewestSet v_this_fewestMost a_this_aside a_this_seens v_this_seenMany v_this_told v_this_st) 32 [(0, .ref a_this), (1, .int x1), (2, .int x2), (3, .int x3), (4, .int x4)] [] := by
    subst hZ
    intro k_32 hk_32 x1 x2 x3 x4 hf
    refine r_iload C dX9_block_32 4 rfl ?_
    refine r_iconst C 1 dX9_block_34 (by decide) ?_
    refine r_aload_n C dX9_block_35 rfl 0 rfl ?_
    refine r_get C in_X9_block_X9 0 rfl rfl 0 (by decide) lk_X9_block_1 rfl rfl dX9_block_36 ?_
    refine r_iconst C 0 dX9_block_39 (by decide) ?_
    refine r_iald_k C 0 1 0 rfl rfl (kk_ 0 37 (by decide) (by decide)) dX9_block_40 ?_
    refine r_ishl C dX9_block_41 ?_
    refine r_icmp_ge C 121 dX9_block_42 (by decide) hf (fun hf => ?_) (fun hf => ?_)
    · refine r_iload_n C dX9_block_121 rfl 3 rfl ?_
      rw [← Option.some.inj hf]
      exact r_iret C hr hlk dX9_block_122
    · refine r_iload C dX9_block_45 4 rfl ?_
      refine r_iload_n C dX9_block_47 rfl 2 rfl ?_
      refine r_iconst C (-1) dX9_block_48 (by decide) ?_
      refine r_ixor C dX9_block_49 ?_
      refine r_iand C dX9_block_50 ?_
      refine r_if_ne C 84 dX9_block_51 (by decide) hf (fun hf => ?_) (fun hf => ?_)
      · exact ST_lv [0, 1, 2, 3, 4] rfl (hb_84 k_32 hk_32 x1 x2 x3 x4 hf)
      · refine r_iload C dX9_block_54 4 rfl ?_
        refine r_iload_n C dX9_block_56 rfl 1 rfl ?_
        obtain ⟨y7, hy8, hf⟩ := bd_some hf
        refine r_roS_i (As := [.int x4, .int x1]) (rest := []) C (c_X9_has l D cyI cyZ cyW x4 x1 y7 hy8) gX9_block_X9_has rfl hyS_X9_has ⟨rfl, rfl, (Nat.le_of_ble_eq_true rfl), (Nat.le_of_ble_eq_true rfl)⟩ rfl [] rfl rfl rfl (Nat.le_of_ble_eq_true rfl) ⟨Nat.zero_le _, Nat.zero_le _⟩ dX9_block_57 ?_
        refine r_if_ne C 84 dX9_block_60 (by decide) hf (fun hf => ?_) (fun hf => ?_)
        · exact ST_lv [0, 1, 2, 3, 4] rfl (hb_84 k_32 hk_32 x1 x2 x3 x4 hf)
        · refine r_aload_n C dX9_block_63 rfl 0 rfl ?_
          refine r_iload_n C dX9_block_64 rfl 2 rfl ?_
          refine r_iload C dX9_block_65 4 rfl ?_
          refine r_iconst C (-1) dX9_block_67 (by decide) ?_
          refine r_ixor C dX9_block_68 ?_
          refine r_iand C dX9_block_69 ?_
          obtain ⟨y9, hy10, hf⟩ := bd_some hf
          refine r_roV_i (As := [.int (x2 &&& (x4 ^^^ (-1)))]) (rest := []) C (c_X9_warmBy l D cyI cyZ cyW a_this a_this_told a_this_st a_this_text v_this_letters v_this_place v_this_token v_this_value v_this_begins a_this_read v_this_clauses a_this_ahead v_this_undoMany a_this_isKept a_this_kept v_this_fewestMany v_this_fewestSets v_this_fewestSet v_this_fewestMost a_this_aside a_this_seens v_this_seenMany v_this_told (x2 &&& (x4 ^^^ (-1))) y9 hy10) gX9_block_X9_warmBy rfl hyV_X9_warmBy ⟨rfl, rfl, (Nat.le_of_ble_eq_true rfl), (Nat.le_of_ble_eq_true rfl)⟩ rfl 0 rfl rfl [0, 1] rfl rfl rfl (Nat.le_of_ble_eq_true rfl) ⟨Nat.zero_le _, Nat.zero_le _⟩ dX9_block_70 ?_
          refine r_aload_n C dX9_block_73 rfl 0 rfl ?_
          obtain ⟨y11, hy12, hf⟩ := bd_some hf
          refine r_roV_i (As := []) (rest := [.int y9]) C (c_X9_coldNow l D cyI cyZ cyW a_this a_this_told a_this_st a_this_text v_this_letters v_this_place v_this_token v_this_value v_this_begins a_this_read v_this_clauses a_this_ahead v_this_undoMany a_this_isKept a_this_kept v_this_fewestMany v_this_fewestSets v_this_fewestSet v_this_fewestMost a_this_aside a_this_seens v_this_seenMany v_this_told v_this_st y11 hy12) gX9_block_X9_coldNow rfl hyV_X9_coldNow ⟨rfl, rfl, (Nat.le_of_ble_eq_true rfl), (Nat.le_of_ble_eq_true rfl)⟩ rfl 0 rfl rfl [0, 1, 2] rfl rfl rfl (Nat.le_of_ble_eq_true rfl) ⟨Nat.zero_le _, Nat.zero_le _⟩ dX9_block_74 ?_
          refine r_icmp_ge C 84 dX9_block_77 (by decide) hf (fun hf => ?_) (fun hf => ?_)
          · exact ST_lv [0, 1, 2, 3, 4] rfl (hb_84 k_32 hk_32 x1 x2 x3 x4 hf)
          · refine r_iconst C 1 dX9_block_80 (by decide) ?_
            refine r_goto C 85 dX9_block_81 (by decide) ?_
            exact ST_lv [0, 1, 2, 3, 4] rfl (hb_85 k_32 hk_32 x1 x2 x3 x4 1 hf)
  have hb_32 : ∀ (n : Nat) (x1 : Int32) (x2 : Int32) (x3 : Int32) (x4 : Int32), f_X9_block_b32 v_this_told v_this_st n x1 x2 x3 x4 = some res → Z (w_X9_block cyI cyZ cyW a_this a_this_told a_this_st a_this_text v_this_letters v_this_place v_this_token v_this_value v_this_begins a_this_read v_this_clauses a_this_ahead v_this_undoMany a_this_isKept a_this_kept v_this_fewestMany v_this_fewestSets v_this_fewestSet v_this_fewestMost a_this_aside a_this_seens v_this_seenMany v_this_told v_this_st) 32 [(0, .ref a_this), (1, .int x1), (2, .int x2), (3, .int x3), (4, .int x4)] [] := by
    intro  n
    induction n with
    | zero => intro x1 x2 x3 x4 hf; exact nn_ hf
    | succ n ih => exact fun x1 x2 x3 x4 hf => hs_32 _ ih x1 x2 x3 x4 hf
  subst hZ
  refine r_aload_n C dX9_block_0 rfl 0 rfl ?_
  refine r_iload_n C dX9_block_1 rfl 1 rfl ?_
  obtain ⟨y1, hy2, hf⟩ := bd_some hf
  refine r_roV_i (As := [.int x1]) (rest := []) C (c_X9_isFamily l D cyI cyZ cyW a_this a_this_told a_this_st a_this_text v_this_letters v_this_place v_this_token v_this_value v_this_begins a_this_read v_this_clauses a_this_ahead v_this_undoMany a_this_isKept a_this_kept v_this_fewestMany v_this_fewestSets v_this_fewestSet v_this_fewestMost a_this_aside a_this_seens v_this_seenMany v_this_told x1 y1 hy2) gX9_block_X9_isFamily rfl hyV_X9_isFamily ⟨rfl, rfl, (Nat.le_of_ble_eq_true rfl), (Nat.le_of_ble_eq_true rfl)⟩ rfl 0 rfl rfl [0, 1] rfl rfl rfl (Nat.le_of_ble_eq_true rfl) ⟨Nat.zero_le _, Nat.zero_le _⟩ dX9_block_2 ?_
  refine r_if_ne C 11 dX9_block_5 (by decide) hf (fun hf => ?_) (fun hf => ?_)
  · refine r_aload_n C dX9_block_11 rfl 0 rfl ?_
    refine r_iload_n C dX9_block_12 rfl 1 rfl ?_
    obtain ⟨y3, hy4, hf⟩ := bd_some hf
    refine r_roV_i (As := [.int x1]) (rest := []) C (c_X9_isFrozen l D cyI cyZ cyW a_this a_this_told a_this_st a_this_text v_this_letters v_this_place v_this_token v_this_value v_this_begins a_this_read v_this_clauses a_this_ahead v_this_undoMany a_this_isKept a_this_kept v_this_fewestMany v_this_fewestSets v_this_fewestSet v_this_fewestMost a_this_aside a_this_seens v_this_seenMany v_this_st x1 y3 hy4) gX9_block_X9_isFrozen rfl hyV_X9_isFrozen ⟨rfl, rfl, (Nat.le_of_ble_eq_true rfl), (Nat.le_of_ble_eq_true rfl)⟩ rfl 0 rfl rfl [0, 2] rfl rfl rfl (Nat.le_of_ble_eq_true rfl) ⟨Nat.zero_le _, Nat.zero_le _⟩ dX9_block_13 ?_
    refine r_if_eq C 22 dX9_block_16 (by decide) hf (fun hf => ?_) (fun hf => ?_)
    · refine r_aload_n C dX9_block_22 rfl 0 rfl ?_
      obtain ⟨y5, hy6, hf⟩ := bd_some hf
      refine r_roV_i (As := []) (rest := []) C (c_X9_alive l D cyI cyZ cyW a_this a_this_told a_this_st a_this_text v_this_letters v_this_place v_this_token v_this_value v_this_begins a_this_read v_this_clauses a_this_ahead v_this_undoMany a_this_isKept a_this_kept v_this_fewestMany v_this_fewestSets v_this_fewestSet v_this_fewestMost a_this_aside a_this_seens v_this_seenMany v_this_told v_this_st y5 hy6) gX9_block_X9_alive rfl hyV_X9_alive ⟨rfl, rfl, (Nat.le_of_ble_eq_true rfl), (Nat.le_of_ble_eq_true rfl)⟩ rfl 0 rfl rfl [0, 1, 2] rfl rfl rfl (Nat.le_of_ble_eq_true rfl) ⟨Nat.zero_le _, Nat.zero_le _⟩ dX9_block_23 ?_
      refine r_istore_n (lv' := [(2, .int y5), (0, .ref a_this), (1, .int x1)]) C dX9_block_26 rfl (by decide) rfl ?_
      refine r_iconst C (-1) dX9_block_27 (by decide) ?_
      refine r_istore_n (lv' := [(3, .int (-1)), (2, .int y5), (0, .ref a_this), (1, .int x1)]) C dX9_block_28 rfl (by decide) rfl ?_
      refine r_iconst C 0 dX9_block_29 (by decide) ?_
      refine r_istore (lv' := [(4, .int 0), (3, .int (-1)), (2, .int y5), (0, .ref a_this), (1, .int x1)]) C dX9_block_30 (by decide) rfl ?_
      exact ST_lv [3, 4, 2, 1, 0] rfl (hb_32 5000 x1 y5 (-1) 0 hf)
    · refine r_bipush C (-4) dX9_block_19 (by decide) ?_
      rw [← Option.some.inj hf]
      exact r_iret C hr hlk dX9_block_21
  · refine r_bipush C (-2) dX9_block_8 (by decide) ?_
    rw [← Option.some.inj hf]
    exact r_iret C hr hlk dX9_block_10

theorem lk_X9_wrong_1 : Cond.fieldLink RX9 7 "ParishCoatModel" "told" "[I" ∈ wsX9_wrong := List.mem_of_getElem? (i := 1) rfl
theorem in_X9_wrong_X9 : ∀ w ∈ u_ws RX9 TX9 21, w ∈ wsX9_wrong := fun _ h => List.mem_cons_of_mem _ (List.mem_append_right _ h)
def f_X9_wrong (v_this_told : Nat → Int32) (v_this_st : Nat → Int32) (x1 : Int32) : Option (Int32) := (f_X9_isFamily v_this_told x1).bind fun y1 => if y1 = 0 then (some ((-2))) else ((f_X9_isFrozen v_this_st x1).bind fun y3 => if y3 = 0 then ((f_X9_doneUp v_this_told v_this_st x1).bind fun y5 => (f_X9_warmBy v_this_told ((y5 <<< (1 &&& 31)) &&& (((1 : Int32) <<< ((v_this_told 0) &&& 31)) - 1))).bind fun y7 => some (y7)) else (some ((-4))))
def w_X9_wrong (cyI cyZ cyW : ClassId) (a_this : Nat) (a_this_told : Nat) (a_this_st : Nat) (a_this_text : Nat) (v_this_letters : Int32) (v_this_place : Int32) (v_this_token : Int32) (v_this_value : Int32) (v_this_begins : Int32) (a_this_read : Nat) (v_this_clauses : Int32) (a_this_ahead : Nat) (v_this_undoMany : Int32) (a_this_isKept : Nat) (a_this_kept : Nat) (v_this_fewestMany : Int32) (v_this_fewestSets : Int32) (v_this_fewestSet : Int32) (v_this_fewestMost : Int32) (a_this_aside : Nat) (a_this_seens : Nat) (v_this_seenMany : Int32) (v_this_told : Nat → Int32) (v_this_st : Nat → Int32) : va_W := [(a_this, .inr (9, [.ref a_this_told, .ref a_this_st, .ref a_this_text, .int v_this_letters, .int v_this_place, .int v_this_token, .int v_this_value, .int v_this_begins, .ref a_this_read, .int v_this_clauses, .ref a_this_ahead, .int v_this_undoMany, .ref a_this_isKept, .ref a_this_kept, .int v_this_fewestMany, .int v_this_fewestSets, .int v_this_fewestSet, .int v_this_fewestMost, .ref a_this_aside, .ref a_this_seens, .int v_this_seenMany])), (a_this_told, .inl (cyI, 37, .inl v_this_told)), (a_this_st, .inl (cyI, 15, .inl v_this_st))]
set_option maxHeartbeats 4000000 in
set_option maxRecDepth 100000 in
theorem c_X9_wrong (l : Launch) (D : va_G) (cyI cyZ cyW : ClassId) (a_this : Nat) (a_this_told : Nat) (a_this_st : Nat) (a_this_text : Nat) (v_this_letters : Int32) (v_this_place : Int32) (v_this_token : Int32) (v_this_value : Int32) (v_this_begins : Int32) (a_this_read : Nat) (v_this_clauses : Int32) (a_this_ahead : Nat) (v_this_undoMany : Int32) (a_this_isKept : Nat) (a_this_kept : Nat) (v_this_fewestMany : Int32) (v_this_fewestSets : Int32) (v_this_fewestSet : Int32) (v_this_fewestMost : Int32) (a_this_aside : Nat) (a_this_seens : Nat) (v_this_seenMany : Int32) (v_this_told : Nat → Int32) (v_this_st : Nat → Int32) (x1 : Int32) (res : Int32) (hf : f_X9_wrong v_this_told v_this_st x1 = some res) : ∀ sz, Met l yX9_wrong wsX9_wrong { frames := 4, cells := 0, slots := 0, locals := 84 } (PCx D (tyG cyI cyZ cyW) [.ref a_this, .int x1] (w_X9_wrong cyI cyZ cyW a_this a_this_told a_this_st a_this_text v_this_letters v_this_place v_this_token v_this_value v_this_begins a_this_read v_this_clauses a_this_ahead v_this_undoMany a_this_isKept a_this_kept v_this_fewestMany v_this_fewestSets v_this_fewestSet v_this_fewestMost a_this_aside a_this_seens v_this_seenMany v_this_told v_this_st) sz) (QI D (tyG cyI cyZ cyW) (w_X9_wrong cyI cyZ cyW a_this a_this_told a_this_st a_this_text v_this_letters v_this_place v_this_token v_this_value v_this_begins a_this_read v_this_clauses a_this_ahead v_this_undoMany a_this_isKept a_this_kept v_this_fewestMany v_this_fewestSets v_this_fewestSet v_this_fewestMost a_this_aside a_this_seens v_this_seenMany v_this_told v_this_st) sz res (w_X9_wrong cyI cyZ cyW a_this a_this_told a_this_st a_this_text v_this_letters v_this_place v_this_token v_this_value v_this_begins a_this_read v_this_clauses a_this_ahead v_this_undoMany a_this_isKept a_this_kept v_this_fewestMany v_this_fewestSets v_this_fewestSet v_this_fewestMost a_this_aside a_this_seens v_this_seenMany v_this_told v_this_st)) 0 0 (va_A (w_X9_wrong cyI cyZ cyW a_this a_this_told a_this_st a_this_text v_this_letters v_this_place v_this_token v_this_value v_this_begins a_this_read v_this_clauses a_this_ahead v_this_undoMany a_this_isKept a_this_kept v_this_fewestMany v_this_fewestSets v_this_fewestSet v_this_fewestMost a_this_aside a_this_seens v_this_seenMany v_this_told v_this_st) sz) := by
  intro sz
  refine met_of (cc := cX9_wrong) (maxL := 2) (ret := (some .int)) (lv0 := [(0, .ref a_this), (1, .int x1)]) (by decide) rfl ⟨(Nat.le_of_ble_eq_true rfl), rfl⟩ ?_
  intro p e s m below meth c C hr hlk hnm hsz
  subst hsz
  have C : CX p s m _ c 2 cX9_wrong RX9 wsX9_wrong D (tyG cyI cyZ cyW) _ := C
  refine r_aload_n C dX9_wrong_0 rfl 0 rfl ?_
  refine r_iload_n C dX9_wrong_1 rfl 1 rfl ?_
  obtain ⟨y1, hy2, hf⟩ := bd_some hf
  refine r_roV_i (As := [.int x1]) (rest := []) C (c_X9_isFamily l D cyI cyZ cyW a_this a_this_told a_this_st a_this_text v_this_letters v_this_place v_this_token v_this_value v_this_begins a_this_read v_this_clauses a_this_ahead v_this_undoMany a_this_isKept a_this_kept v_this_fewestMany v_this_fewestSets v_this_fewestSet v_this_fewestMost a_this_aside a_this_seens v_this_seenMany v_this_told x1 y1 hy2) gX9_wrong_X9_isFamily rfl hyV_X9_isFamily ⟨rfl, rfl, (Nat.le_of_ble_eq_true rfl), (Nat.le_of_ble_eq_true rfl)⟩ rfl 0 rfl rfl [0, 1] rfl rfl rfl (Nat.le_of_ble_eq_true rfl) ⟨Nat.zero_le _, Nat.zero_le _⟩ dX9_wrong_2 ?_
  refine r_if_ne C 11 dX9_wrong_5 (by decide) hf (fun hf => ?_) (fun hf => ?_)
  · refine r_aload_n C dX9_wrong_11 rfl 0 rfl ?_
    refine r_iload_n C dX9_wrong_12 rfl 1 rfl ?_
    obtain ⟨y3, hy4, hf⟩ := bd_some hf
    refine r_roV_i (As := [.int x1]) (rest := []) C (c_X9_isFrozen l D cyI cyZ cyW a_this a_this_told a_this_st a_this_text v_this_letters v_this_place v_this_token v_this_value v_this_begins a_this_read v_this_clauses a_this_ahead v_this_undoMany a_this_isKept a_this_kept v_this_fewestMany v_this_fewestSets v_this_fewestSet v_this_fewestMost a_this_aside a_this_seens v_this_seenMany v_this_st x1 y3 hy4) gX9_wrong_X9_isFrozen rfl hyV_X9_isFrozen ⟨rfl, rfl, (Nat.le_of_ble_eq_true rfl), (Nat.le_of_ble_eq_true rfl)⟩ rfl 0 rfl rfl [0, 2] rfl rfl rfl (Nat.le_of_ble_eq_true rfl) ⟨Nat.zero_le _, Nat.zero_le _⟩ dX9_wrong_13 ?_
    refine r_if_eq C 22 dX9_wrong_16 (by decide) hf (fun hf => ?_) (fun hf => ?_)
    · refine r_aload_n C dX9_wrong_22 rfl 0 rfl ?_
      refine r_aload_n C dX9_wrong_23 rfl 0 rfl ?_
      refine r_iload_n C dX9_wrong_24 rfl 1 rfl ?_
      obtain ⟨y5, hy6, hf⟩ := bd_some hf
      refine r_roV_i (As := [.int x1]) (rest := [.ref a_this]) C (c_X9_doneUp l D cyI cyZ cyW a_this a_this_told a_this_st a_this_text v_this_letters v_this_place v_this_token v_this_value v_this_begins a_this_read v_this_clauses a_this_ahead v_this_undoMany a_this_isKept a_this_kept v_this_fewestMany v_this_fewestSets v_this_fewestSet v_this_fewestMost a_this_aside a_this_seens v_this_seenMany v_this_told v_this_st x1 y5 hy6) gX9_wrong_X9_doneUp rfl hyV_X9_doneUp ⟨rfl, rfl, (Nat.le_of_ble_eq_true rfl), (Nat.le_of_ble_eq_true rfl)⟩ rfl 0 rfl rfl [0, 1, 2] rfl rfl rfl (Nat.le_of_ble_eq_true rfl) ⟨Nat.zero_le _, Nat.zero_le _⟩ dX9_wrong_25 ?_
      refine r_iconst C 1 dX9_wrong_28 (by decide) ?_
      refine r_ishl C dX9_wrong_29 ?_
      refine r_iconst C 1 dX9_wrong_30 (by decide) ?_
      refine r_aload_n C dX9_wrong_31 rfl 0 rfl ?_
      refine r_get C in_X9_wrong_X9 0 rfl rfl 0 (by decide) lk_X9_wrong_1 rfl rfl dX9_wrong_32 ?_
      refine r_iconst C 0 dX9_wrong_35 (by decide) ?_
      refine r_iald_k C 0 1 0 rfl rfl (kk_ 0 37 (by decide) (by decide)) dX9_wrong_36 ?_
      refine r_ishl C dX9_wrong_37 ?_
      refine r_iconst C 1 dX9_wrong_38 (by decide) ?_
      refine r_isub C dX9_wrong_39 ?_
      refine r_iand C dX9_wrong_40 ?_
      obtain ⟨y7, hy8, hf⟩ := bd_some hf
      refine r_roV_i (As := [.int ((y5 <<< (1 &&& 31)) &&& (((1 : Int32) <<< ((v_this_told 0) &&& 31)) - 1))]) (rest := []) C (c_X9_warmBy l D cyI cyZ cyW a_this a_this_told a_this_st a_this_text v_this_letters v_this_place v_this_token v_this_value v_this_begins a_this_read v_this_clauses a_this_ahead v_this_undoMany a_this_isKept a_this_kept v_this_fewestMany v_this_fewestSets v_this_fewestSet v_this_fewestMost a_this_aside a_this_seens v_this_seenMany v_this_told ((y5 <<< (1 &&& 31)) &&& (((1 : Int32) <<< ((v_this_told 0) &&& 31)) - 1)) y7 hy8) gX9_wrong_X9_warmBy rfl hyV_X9_warmBy ⟨rfl, rfl, (Nat.le_of_ble_eq_true rfl), (Nat.le_of_ble_eq_true rfl)⟩ rfl 0 rfl rfl [0, 1] rfl rfl rfl (Nat.le_of_ble_eq_true rfl) ⟨Nat.zero_le _, Nat.zero_le _⟩ dX9_wrong_41 ?_
      rw [← Option.some.inj hf]
      exact r_iret C hr hlk dX9_wrong_44
    · refine r_bipush C (-4) dX9_wrong_19 (by decide) ?_
      rw [← Option.some.inj hf]
      exact r_iret C hr hlk dX9_wrong_21
  · refine r_bipush C (-2) dX9_wrong_8 (by decide) ?_
    rw [← Option.some.inj hf]
    exact r_iret C hr hlk dX9_wrong_10

theorem lk_X9_healthOfAll_1 : Cond.fieldLink RX9 7 "ParishCoatModel" "told" "[I" ∈ wsX9_healthOfAll := List.mem_of_getElem? (i := 1) rfl
theorem lk_X9_healthOfAll_2 : Cond.fieldLink RX9 13 "ParishCoatModel" "st" "[I" ∈ wsX9_healthOfAll := List.mem_of_getElem? (i := 2) rfl
theorem in_X9_healthOfAll_X9 : ∀ w ∈ u_ws RX9 TX9 21, w ∈ wsX9_healthOfAll := fun _ h => List.mem_cons_of_mem _ (List.mem_append_right _ h)
def f_X9_healthOfAll_s4 (v_this_told : Nat → Int32) (v_this_st : Nat → Int32) (k_4 : Int32 → Int32 → Option (Int32)) (x1 : Int32) (x2 : Int32) : Option (Int32) := if (v_this_told 0) ≤ x2 then (some (x1)) else (gd_ x2 15 (k_4 (x1 + (v_this_st (Int32.toNatClampNeg x2))) (x2 + 1)))
def f_X9_healthOfAll_b4 (v_this_told : Nat → Int32) (v_this_st : Nat → Int32) (n : Nat) : Int32 → Int32 → Option (Int32) := it_ (f_X9_healthOfAll_s4 v_this_told v_this_st ) (fun _ _ => none) n
def f_X9_healthOfAll (v_this_told : Nat → Int32) (v_this_st : Nat → Int32) : Option (Int32) := f_X9_healthOfAll_b4 v_this_told v_this_st 5000 0 0
def w_X9_healthOfAll (cyI cyZ cyW : ClassId) (a_this : Nat) (a_this_told : Nat) (a_this_st : Nat) (a_this_text : Nat) (v_this_letters : Int32) (v_this_place : Int32) (v_this_token : Int32) (v_this_value : Int32) (v_this_begins : Int32) (a_this_read : Nat) (v_this_clauses : Int32) (a_this_ahead : Nat) (v_this_undoMany : Int32) (a_this_isKept : Nat) (a_this_kept : Nat) (v_this_fewestMany : Int32) (v_this_fewestSets : Int32) (v_this_fewestSet : Int32) (v_this_fewestMost : Int32) (a_this_aside : Nat) (a_this_seens : Nat) (v_this_seenMany : Int32) (v_this_told : Nat → Int32) (v_this_st : Nat → Int32) : va_W := [(a_this, .inr (9, [.ref a_this_told, .ref a_this_st, .ref a_this_text, .int v_this_letters, .int v_this_place, .int v_this_token, .int v_this_value, .int v_this_begins, .ref a_this_read, .int v_this_clauses, .ref a_this_ahead, .int v_this_undoMany, .ref a_this_isKept, .ref a_this_kept, .int v_this_fewestMany, .int v_this_fewestSets, .int v_this_fewestSet, .int v_this_fewestMost, .ref a_this_aside, .ref a_this_seens, .int v_this_seenMany])), (a_this_told, .inl (cyI, 37, .inl v_this_told)), (a_this_st, .inl (cyI, 15, .inl v_this_st))]
set_option maxHeartbeats 4000000 in
set_option maxRecDepth 100000 in
theorem c_X9_healthOfAll (l : Launch) (D : va_G) (cyI cyZ cyW : ClassId) (a_this : Nat) (a_this_told : Nat) (a_this_st : Nat) (a_this_text : Nat) (v_this_letters : Int32) (v_this_place : Int32) (v_this_token : Int32) (v_this_value : Int32) (v_this_begins : Int32) (a_this_read : Nat) (v_this_clauses : Int32) (a_this_ahead : Nat) (v_this_undoMany : Int32) (a_this_isKept : Nat) (a_this_kept : Nat) (v_this_fewestMany : Int32) (v_this_fewestSets : Int32) (v_this_fewestSet : Int32) (v_this_fewestMost : Int32) (a_this_aside : Nat) (a_this_seens : Nat) (v_this_seenMany : Int32) (v_this_told : Nat → Int32) (v_this_st : Nat → Int32) (res : Int32) (hf : f_X9_healthOfAll v_this_told v_this_st = some res) : ∀ sz, Met l yX9_healthOfAll wsX9_healthOfAll { frames := 0, cells := 0, slots := 0, locals := 0 } (PCx D (tyG cyI cyZ cyW) [.ref a_this] (w_X9_healthOfAll cyI cyZ cyW a_this a_this_told a_this_st a_this_text v_this_letters v_this_place v_this_token v_this_value v_this_begins a_this_read v_this_clauses a_this_ahead v_this_undoMany a_this_isKept a_this_kept v_this_fewestMany v_this_fewestSets v_this_fewestSet v_this_fewestMost a_this_aside a_this_seens v_this_seenMany v_this_told v_this_st) sz) (QI D (tyG cyI cyZ cyW) (w_X9_healthOfAll cyI cyZ cyW a_this a_this_told a_this_st a_this_text v_this_letters v_this_place v_this_token v_this_value v_this_begins a_this_read v_this_clauses a_this_ahead v_this_undoMany a_this_isKept a_this_kept v_this_fewestMany v_this_fewestSets v_this_fewestSet v_this_fewestMost a_this_aside a_this_seens v_this_seenMany v_this_told v_this_st) sz res (w_X9_healthOfAll cyI cyZ cyW a_this a_this_told a_this_st a_this_text v_this_letters v_this_place v_this_token v_this_value v_this_begins a_this_read v_this_clauses a_this_ahead v_this_undoMany a_this_isKept a_this_kept v_this_fewestMany v_this_fewestSets v_this_fewestSet v_this_fewestMost a_this_aside a_this_seens v_this_seenMany v_this_told v_this_st)) 0 0 (va_A (w_X9_healthOfAll cyI cyZ cyW a_this a_this_told a_this_st a_this_text v_this_letters v_this_place v_this_token v_this_value v_this_begins a_this_read v_this_clauses a_this_ahead v_this_undoMany a_this_isKept a_this_kept v_this_fewestMany v_this_fewestSets v_this_fewestSet v_this_fewestMost a_this_aside a_this_seens v_this_seenMany v_this_told v_this_st) sz) := by
  intro sz
  refine met_of (cc := cX9_healthOfAll) (maxL := 3) (ret := (some .int)) (lv0 := [(0, .ref a_this)]) (by decide) rfl ⟨(Nat.le_of_ble_eq_true rfl), rfl⟩ ?_
  intro p e s m below meth c C hr hlk hnm hsz
  subst hsz
  have C : CX p s m _ c 3 cX9_healthOfAll RX9 wsX9_healthOfAll D (tyG cyI cyZ cyW) _ := C
  obtain ⟨Z, hZ⟩ : ∃ Z : va_W → Nat → LV → List Value → Prop, Z = ST p l e { frames := 0, cells := 0, slots := 0, locals := 0 } s m [.ref a_this].toArray below meth c 3 D (va_A (w_X9_healthOfAll cyI cyZ cyW a_this a_this_told a_this_st a_this_text v_this_letters v_this_place v_this_token v_this_value v_this_begins a_this_read v_this_clauses a_this_ahead v_this_undoMany a_this_isKept a_this_kept v_this_fewestMany v_this_fewestSets v_this_fewestSet v_this_fewestMost a_this_aside a_this_seens v_this_seenMany v_this_told v_this_st) s.heap.size) (MQ below (QI D (tyG cyI cyZ cyW) (w_X9_healthOfAll cyI cyZ cyW a_this a_this_told a_this_st a_this_text v_this_letters v_this_place v_this_token v_this_value v_this_begins a_this_read v_this_clauses a_this_ahead v_this_undoMany a_this_isKept a_this_kept v_this_fewestMany v_this_fewestSets v_this_fewestSet v_this_fewestMost a_this_aside a_this_seens v_this_seenMany v_this_told v_this_st) s.heap.size res (w_X9_healthOfAll cyI cyZ cyW a_this a_this_told a_this_st a_this_text v_this_letters v_this_place v_this_token v_this_value v_this_begins a_this_read v_this_clauses a_this_ahead v_this_undoMany a_this_isKept a_this_kept v_this_fewestMany v_this_fewestSets v_this_fewestSet v_this_fewestMost a_this_aside a_this_seens v_this_seenMany v_this_told v_this_st)) [.ref a_this].toArray s 0 0 (va_A (w_X9_healthOfAll cyI cyZ cyW a_this a_this_told a_this_st a_this_text v_this_letters v_this_place v_this_token v_this_value v_this_begins a_this_read v_this_clauses a_this_ahead v_this_undoMany a_this_isKept a_this_kept v_this_fewestMany v_this_fewestSets v_this_fewestSet v_this_fewestMost a_this_aside a_this_seens v_this_seenMany v_this_told v_this_st) s.heap.size)) 0 0 := ⟨_, rfl⟩
  have hs_4 : ∀ (k_4 : Int32 → Int32 → Option (Int32)), (∀ (x1 : Int32) (x2 : Int32), k_4 x1 x2 = some res → Z (w_X9_healthOfAll cyI cyZ cyW a_this a_this_told a_this_st a_this_text v_this_letters v_this_place v_this_token v_this_value v_this_begins a_this_read v_this_clauses a_this_ahead v_this_undoMany a_this_isKept a_this_kept v_this_fewestMany v_this_fewestSets v_this_fewestSet v_this_fewestMost a_this_aside a_this_seens v_this_seenMany v_this_told v_this_st) 4 [(0, .ref a_this), (1, .int x1), (2, .int x2)] []) → ∀ (x1 : Int32) (x2 : Int32), f_X9_healthOfAll_s4 v_this_told v_this_st k_4 x1 x2 = some res → Z (w_X9_healthOfAll cyI cyZ cyW a_this a_this_told a_this_st a_this_text v_this_letters v_this_place v_this_token v_this_value v_this_begins a_this_read v_this_clauses a_this_ahead v_this_undoMany a_this_isKept a_this_kept v_this_fewestMany v_this_fewestSets v_this_fewestSet v_this_fewestMost a_this_aside a_this_seens v_this_seenMany v_this_told v_this_st) 4 [(0, .ref a_this), (1, .int x1), (2, .int x2)] [] := by
    subst hZ
    intro k_4 hk_4 x1 x2 hf
    refine r_iload_n C dX9_healthOfAll_4 rfl 2 rfl ?_
    refine r_aload_n C dX9_healthOfAll_5 rfl 0 rfl ?_
    refine r_get C in_X9_healthOfAll_X9 0 rfl rfl 0 (by decide) lk_X9_healthOfAll_1 rfl rfl dX9_healthOfAll_6 ?_
    refine r_iconst C 0 dX9_healthOfAll_9 (by decide) ?_
    refine r_iald_k C 0 1 0 rfl rfl (kk_ 0 37 (by decide) (by decide)) dX9_healthOfAll_10 ?_
    refine r_icmp_ge C 29 dX9_healthOfAll_11 (by decide) hf (fun hf => ?_) (fun hf => ?_)
    · refine r_iload_n C dX9_healthOfAll_29 rfl 1 rfl ?_
      rw [← Option.some.inj hf]
      exact r_iret C hr hlk dX9_healthOfAll_30
    · refine r_iload_n C dX9_healthOfAll_14 rfl 1 rfl ?_
      refine r_aload_n C dX9_healthOfAll_15 rfl 0 rfl ?_
      refine r_get C in_X9_healthOfAll_X9 0 rfl rfl 1 (by decide) lk_X9_healthOfAll_2 rfl rfl dX9_healthOfAll_16 ?_
      refine r_iload_n C dX9_healthOfAll_19 rfl 2 rfl ?_
      obtain ⟨hi1, hf⟩ := gd_some hf
      refine r_iald C 2 0 rfl rfl hi1 dX9_healthOfAll_20 ?_
      refine r_iadd C dX9_healthOfAll_21 ?_
      refine r_istore_n (lv' := [(1, .int (x1 + (v_this_st (Int32.toNatClampNeg x2)))), (0, .ref a_this), (2, .int x2)]) C dX9_healthOfAll_22 rfl (by decide) rfl ?_
      refine r_iinc (v := 1) (k := 2) (lv' := [(2, .int (x2 + 1)), (1, .int (x1 + (v_this_st (Int32.toNatClampNeg x2)))), (0, .ref a_this)]) C dX9_healthOfAll_23 rfl (by decide) (by decide) rfl ?_
      refine r_goto C 4 dX9_healthOfAll_26 (by decide) ?_
      exact ST_lv [2, 1, 0] rfl (hk_4 (x1 + (v_this_st (Int32.toNatClampNeg x2))) (x2 + 1) hf)
  have hb_4 : ∀ (n : Nat) (x1 : Int32) (x2 : Int32), f_X9_healthOfAll_b4 v_this_told v_this_st n x1 x2 = some res → Z (w_X9_healthOfAll cyI cyZ cyW a_this a_this_told a_this_st a_this_text v_this_letters v_this_place v_this_token v_this_value v_this_begins a_this_read v_this_clauses a_this_ahead v_this_undoMany a_this_isKept a_this_kept v_this_fewestMany v_this_fewestSets v_this_fewestSet v_this_fewestMost a_this_aside a_this_seens v_this_seenMany v_this_told v_this_st) 4 [(0, .ref a_this), (1, .int x1), (2, .int x2)] [] := by
    intro  n
    induction n with
    | zero => intro x1 x2 hf; exact nn_ hf
    | succ n ih => exact fun x1 x2 hf => hs_4 _ ih x1 x2 hf
  subst hZ
  refine r_iconst C 0 dX9_healthOfAll_0 (by decide) ?_
  refine r_istore_n (lv' := [(1, .int 0), (0, .ref a_this)]) C dX9_healthOfAll_1 rfl (by decide) rfl ?_
  refine r_iconst C 0 dX9_healthOfAll_2 (by decide) ?_
  refine r_istore_n (lv' := [(2, .int 0), (1, .int 0), (0, .ref a_this)]) C dX9_healthOfAll_3 rfl (by decide) rfl ?_
  exact ST_lv [2, 1, 0] rfl (hb_4 5000 0 0 hf)

theorem lk_X9_turns_1 : Cond.constantLong RX9 152 (4) ∈ wsX9_turns := List.mem_of_getElem? (i := 1) rfl
theorem lk_X9_turns_2 : Cond.constantLong RX9 205 (5) ∈ wsX9_turns := List.mem_of_getElem? (i := 2) rfl
theorem lk_X9_turns_3 : Cond.fieldLink RX9 32 "ParishCoatModel" "aside" "[I" ∈ wsX9_turns := List.mem_of_getElem? (i := 3) rfl
theorem lk_X9_turns_4 : Cond.fieldLink RX9 13 "ParishCoatModel" "st" "[I" ∈ wsX9_turns := List.mem_of_getElem? (i := 4) rfl
theorem lk_X9_turns_5 : Cond.fieldLink RX9 7 "ParishCoatModel" "told" "[I" ∈ wsX9_turns := List.mem_of_getElem? (i := 5) rfl
theorem in_X9_turns_X9 : ∀ w ∈ u_ws RX9 TX9 21, w ∈ wsX9_turns := fun _ h => List.mem_cons_of_mem _ (List.mem_append_right _ h)
theorem hyV_X9_healthOfAll : yX9_healthOfAll.cls = RX9 ∧ yX9_healthOfAll.cls ≠ "java/lang/invoke/MethodHandle" ∧ yX9_healthOfAll.cls ≠ "java/lang/invoke/VarHandle" ∧ (parseMethodDescriptor yX9_healthOfAll.desc).map (fun d => d.parameters.length) = some 0 := by decide +kernel
theorem hyS_X9_healthOfAll : yX9_healthOfAll.cls ≠ "java/lang/invoke/MethodHandle" ∧ yX9_healthOfAll.cls ≠ "java/lang/invoke/VarHandle" ∧ (parseMethodDescriptor yX9_healthOfAll.desc).map (fun d => d.parameters.length) = some 0 := by decide +kernel
def f_X9_turns_b289 (v_this_told : Nat → Int32) (k_259 : Int32 → Int32 → Int32 → Int32 → Int32 → (Nat → Int32) → (Nat → Int32) → Option (Int32 × (Nat → Int32) × (Nat → Int32))) (x1 : Int32) (x2 : Int32) (x6 : Int32) (x8 : Int32) (s0 : Int32) (v_this_st : Nat → Int32) (v_this_aside : Nat → Int32) : Option (Int32 × (Nat → Int32) × (Nat → Int32)) := k_259 x1 x2 x6 s0 (x8 + 1) v_this_st v_this_aside
def f_X9_turns_s259 (v_this_told : Nat → Int32) (k_259 : Int32 → Int32 → Int32 → Int32 → Int32 → (Nat → Int32) → (Nat → Int32) → Option (Int32 × (Nat → Int32) × (Nat → Int32))) (x1 : Int32) (x2 : Int32) (x6 : Int32) (x7 : Int32) (x8 : Int32) (v_this_st : Nat → Int32) (v_this_aside : Nat → Int32) : Option (Int32 × (Nat → Int32) × (Nat → Int32)) := if (x2 - 2) < x8 then (if x1 ≤ (x2 - 2) then (some ((-1), v_this_st, v_this_aside)) else (nz_ x7 (nz_ ((v_this_told 0) + 1) (some ((((x6 / x7) - (x6 / x7) / ((v_this_told 0) + 1) * ((v_this_told 0) + 1)) - 1), v_this_st, v_this_aside))))) else (if x1 ≤ x8 then (f_X9_turns_b289 v_this_told k_259 x1 x2 x6 x8 x7 v_this_st v_this_aside) else (nz_ ((v_this_told 0) + 1) (f_X9_turns_b289 v_this_told k_259 x1 x2 x6 x8 (x7 / ((v_this_told 0) + 1)) v_this_st v_this_aside)))
def f_X9_turns_b259 (v_this_told : Nat → Int32) (n : Nat) : Int32 → Int32 → Int32 → Int32 → Int32 → (Nat → Int32) → (Nat → Int32) → Option (Int32 × (Nat → Int32) × (Nat → Int32)) := it_ (f_X9_turns_s259 v_this_told ) (fun _ _ _ _ _ _ _ => none) n
def f_X9_turns_s203 (v_this_told : Nat → Int32) (k_94 : Int32 → Int32 → Int32 → Int32 → Int32 → Int32 → Int32 → (Nat → Int32) → (Nat → Int32) → Option (Int32 × (Nat → Int32) × (Nat → Int32))) (k_203 : Int32 → Int32 → Int32 → Int32 → Int32 → Int32 → Int32 → Int32 → (Nat → Int32) → (Nat → Int32) → Option (Int32 × (Nat → Int32) × (Nat → Int32))) (x1 : Int32) (x2 : Int32) (x3 : Int32) (x4 : Int32) (x5 : Int32) (x6 : Int32) (x7 : Int32) (x11 : Int32) (v_this_st : Nat → Int32) (v_this_aside : Nat → Int32) : Option (Int32 × (Nat → Int32) × (Nat → Int32)) := if 15 ≤ x11 then (k_94 x1 x2 x3 x4 x5 x6 (x7 + 1) v_this_st v_this_aside) else (gd_ x11 15 (gd_ x11 15 (k_203 x1 x2 x3 x4 x5 x6 x7 (x11 + 1) (upd v_this_st (Int32.toNatClampNeg x11) (v_this_aside (Int32.toNatClampNeg x11))) v_this_aside)))
def f_X9_turns_b203 (v_this_told : Nat → Int32) (k_94 : Int32 → Int32 → Int32 → Int32 → Int32 → Int32 → Int32 → (Nat → Int32) → (Nat → Int32) → Option (Int32 × (Nat → Int32) × (Nat → Int32))) (n : Nat) : Int32 → Int32 → Int32 → Int32 → Int32 → Int32 → Int32 → Int32 → (Nat → Int32) → (Nat → Int32) → Option (Int32 × (Nat → Int32) × (Nat → Int32)) := it_ (f_X9_turns_s203 v_this_told k_94) (fun _ _ _ _ _ _ _ _ _ _ => none) n
def f_X9_turns_b200 (v_this_told : Nat → Int32) (k_94 : Int32 → Int32 → Int32 → Int32 → Int32 → Int32 → Int32 → (Nat → Int32) → (Nat → Int32) → Option (Int32 × (Nat → Int32) × (Nat → Int32))) (x1 : Int32) (x2 : Int32) (x3 : Int32) (x4 : Int32) (x5 : Int32) (x6 : Int32) (x7 : Int32) (v_this_st : Nat → Int32) (v_this_aside : Nat → Int32) : Option (Int32 × (Nat → Int32) × (Nat → Int32)) := f_X9_turns_b203 v_this_told k_94 5000 x1 x2 x3 x4 x5 x6 x7 0 v_this_st v_this_aside
def f_X9_turns_b188 (v_this_told : Nat → Int32) (k_94 : Int32 → Int32 → Int32 → Int32 → Int32 → Int32 → Int32 → (Nat → Int32) → (Nat → Int32) → Option (Int32 × (Nat → Int32) × (Nat → Int32))) (x1 : Int32) (x2 : Int32) (x3 : Int32) (x7 : Int32) (x9 : Int32) (x10 : Int32) (v_this_st : Nat → Int32) (v_this_aside : Nat → Int32) : Option (Int32 × (Nat → Int32) × (Nat → Int32)) := f_X9_turns_b200 v_this_told k_94 x1 x2 x3 x9 x10 x7 x7 v_this_st v_this_aside
def f_X9_turns_s106 (v_this_told : Nat → Int32) (k_94 : Int32 → Int32 → Int32 → Int32 → Int32 → Int32 → Int32 → (Nat → Int32) → (Nat → Int32) → Option (Int32 × (Nat → Int32) × (Nat → Int32))) (k_106 : Int32 → Int32 → Int32 → Int32 → Int32 → Int32 → Int32 → Int32 → Int32 → (Nat → Int32) → (Nat → Int32) → Option (Int32 × (Nat → Int32) × (Nat → Int32))) (x1 : Int32) (x2 : Int32) (x3 : Int32) (x4 : Int32) (x5 : Int32) (x6 : Int32) (x7 : Int32) (x8 : Int32) (x9 : Int32) (v_this_st : Nat → Int32) (v_this_aside : Nat → Int32) : Option (Int32 × (Nat → Int32) × (Nat → Int32)) := if x1 ≤ x9 then ((f_X9_frozen v_this_told v_this_st).bind fun y7 => (f_X9_ones y7).bind fun y9 => (f_X9_healthOfAll v_this_told v_this_st).bind fun y11 => if y9 < x4 then (f_X9_turns_b188 v_this_told k_94 x1 x2 x3 x7 y9 y11 v_this_st v_this_aside) else (if y9 = x4 then (if y11 ≤ x5 then (f_X9_turns_b200 v_this_told k_94 x1 x2 x3 x4 x5 x6 x7 v_this_st v_this_aside) else (f_X9_turns_b188 v_this_told k_94 x1 x2 x3 x7 y9 y11 v_this_st v_this_aside)) else (f_X9_turns_b200 v_this_told k_94 x1 x2 x3 x4 x5 x6 x7 v_this_st v_this_aside))) else (nz_ ((v_this_told 0) + 1) (nz_ (x8 / ((v_this_told 0) + 1)) (nz_ ((v_this_told 0) + 1) (bd2 (f_X9_oneDay v_this_told v_this_st (((x7 / (x8 / ((v_this_told 0) + 1))) - (x7 / (x8 / ((v_this_told 0) + 1))) / ((v_this_told 0) + 1) * ((v_this_told 0) + 1)) - 1)) (fun y16_0 y16_1 => k_106 x1 x2 x3 x4 x5 x6 x7 (x8 / ((v_this_told 0) + 1)) (x9 + 1) y16_1 v_this_aside)))))
def f_X9_turns_b106 (v_this_told : Nat → Int32) (k_94 : Int32 → Int32 → Int32 → Int32 → Int32 → Int32 → Int32 → (Nat → Int32) → (Nat → Int32) → Option (Int32 × (Nat → Int32) × (Nat → Int32))) (n : Nat) : Int32 → Int32 → Int32 → Int32 → Int32 → Int32 → Int32 → Int32 → Int32 → (Nat → Int32) → (Nat → Int32) → Option (Int32 × (Nat → Int32) × (Nat → Int32)) := it_ (f_X9_turns_s106 v_this_told k_94) (fun _ _ _ _ _ _ _ _ _ _ _ => none) n
def f_X9_turns_s94 (v_this_told : Nat → Int32) (k_94 : Int32 → Int32 → Int32 → Int32 → Int32 → Int32 → Int32 → (Nat → Int32) → (Nat → Int32) → Option (Int32 × (Nat → Int32) × (Nat → Int32))) (x1 : Int32) (x2 : Int32) (x3 : Int32) (x4 : Int32) (x5 : Int32) (x6 : Int32) (x7 : Int32) (v_this_st : Nat → Int32) (v_this_aside : Nat → Int32) : Option (Int32 × (Nat → Int32) × (Nat → Int32)) := if x3 ≤ x7 then (if 2 ≤ x2 then (f_X9_turns_b259 v_this_told 5000 x1 x2 x6 x3 0 v_this_st v_this_aside) else (if x2 = 0 then (some (x4, v_this_st, v_this_aside)) else (some (x5, v_this_st, v_this_aside)))) else (f_X9_turns_b106 v_this_told k_94 5000 x1 x2 x3 x4 x5 x6 x7 x3 0 v_this_st v_this_aside)
def f_X9_turns_b94 (v_this_told : Nat → Int32) (n : Nat) : Int32 → Int32 → Int32 → Int32 → Int32 → Int32 → Int32 → (Nat → Int32) → (Nat → Int32) → Option (Int32 × (Nat → Int32) × (Nat → Int32)) := it_ (f_X9_turns_s94 v_this_told ) (fun _ _ _ _ _ _ _ _ _ => none) n
def f_X9_turns_s58 (v_this_told : Nat → Int32) (k_58 : Int32 → Int32 → Int32 → Int32 → (Nat → Int32) → (Nat → Int32) → Option (Int32 × (Nat → Int32) × (Nat → Int32))) (x1 : Int32) (x2 : Int32) (x3 : Int32) (x4 : Int32) (v_this_st : Nat → Int32) (v_this_aside : Nat → Int32) : Option (Int32 × (Nat → Int32) × (Nat → Int32)) := if x1 ≤ x4 then (f_X9_turns_b94 v_this_told 5000 x1 x2 x3 8 0 0 0 v_this_st v_this_aside) else (k_58 x1 x2 (x3 * ((v_this_told 0) + 1)) (x4 + 1) v_this_st v_this_aside)
def f_X9_turns_b58 (v_this_told : Nat → Int32) (n : Nat) : Int32 → Int32 → Int32 → Int32 → (Nat → Int32) → (Nat → Int32) → Option (Int32 × (Nat → Int32) × (Nat → Int32)) := it_ (f_X9_turns_s58 v_this_told ) (fun _ _ _ _ _ _ => none) n
def f_X9_turns_s29 (v_this_told : Nat → Int32) (k_29 : Int32 → Int32 → Int32 → (Nat → Int32) → (Nat → Int32) → Option (Int32 × (Nat → Int32) × (Nat → Int32))) (x1 : Int32) (x2 : Int32) (x3 : Int32) (v_this_st : Nat → Int32) (v_this_aside : Nat → Int32) : Option (Int32 × (Nat → Int32) × (Nat → Int32)) := if 15 ≤ x3 then (f_X9_turns_b58 v_this_told 5000 x1 x2 1 0 v_this_st v_this_aside) else (gd_ x3 15 (gd_ x3 15 (k_29 x1 x2 (x3 + 1) v_this_st (upd v_this_aside (Int32.toNatClampNeg x3) (v_this_st (Int32.toNatClampNeg x3))))))
def f_X9_turns_b29 (v_this_told : Nat → Int32) (n : Nat) : Int32 → Int32 → Int32 → (Nat → Int32) → (Nat → Int32) → Option (Int32 × (Nat → Int32) × (Nat → Int32)) := it_ (f_X9_turns_s29 v_this_told ) (fun _ _ _ _ _ => none) n
def f_X9_turns (v_this_st : Nat → Int32) (v_this_aside : Nat → Int32) (v_this_told : Nat → Int32) (x1 : Int32) (x2 : Int32) : Option (Int32 × (Nat → Int32) × (Nat → Int32)) := (f_X9_in (Int32.toInt64 x1) 0 4).bind fun y1 => if y1 = 0 then (some ((-3), v_this_st, v_this_aside)) else ((f_X9_in (Int32.toInt64 x2) 0 5).bind fun y3 => if y3 = 0 then (some ((-3), v_this_st, v_this_aside)) else (f_X9_turns_b29 v_this_told 5000 x1 x2 0 v_this_st v_this_aside))
def w_X9_turns (cyI cyZ cyW : ClassId) (a_this : Nat) (a_this_told : Nat) (a_this_st : Nat) (a_this_text : Nat) (v_this_letters : Int32) (v_this_place : Int32) (v_this_token : Int32) (v_this_value : Int32) (v_this_begins : Int32) (a_this_read : Nat) (v_this_clauses : Int32) (a_this_ahead : Nat) (v_this_undoMany : Int32) (a_this_isKept : Nat) (a_this_kept : Nat) (v_this_fewestMany : Int32) (v_this_fewestSets : Int32) (v_this_fewestSet : Int32) (v_this_fewestMost : Int32) (a_this_aside : Nat) (a_this_seens : Nat) (v_this_seenMany : Int32) (v_this_st : Nat → Int32) (v_this_aside : Nat → Int32) (v_this_told : Nat → Int32) : va_W := [(a_this, .inr (9, [.ref a_this_told, .ref a_this_st, .ref a_this_text, .int v_this_letters, .int v_this_place, .int v_this_token, .int v_this_value, .int v_this_begins, .ref a_this_read, .int v_this_clauses, .ref a_this_ahead, .int v_this_undoMany, .ref a_this_isKept, .ref a_this_kept, .int v_this_fewestMany, .int v_this_fewestSets, .int v_this_fewestSet, .int v_this_fewestMost, .ref a_this_aside, .ref a_this_seens, .int v_this_seenMany])), (a_this_st, .inl (cyI, 15, .inl v_this_st)), (a_this_aside, .inl (cyI, 15, .inl v_this_aside)), (a_this_told, .inl (cyI, 37, .inl v_this_told))]
set_option maxHeartbeats 4000000 in
set_option maxRecDepth 100000 in
theorem c_X9_turns (l : Launch) (D : va_G) (cyI cyZ cyW : ClassId) (a_this : Nat) (a_this_told : Nat) (a_this_st : Nat) (a_this_text : Nat) (v_this_letters : Int32) (v_this_place : Int32) (v_this_token : Int32) (v_this_value : Int32) (v_this_begins : Int32) (a_this_read : Nat) (v_this_clauses : Int32) (a_this_ahead : Nat) (v_this_undoMany : Int32) (a_this_isKept : Nat) (a_this_kept : Nat) (v_this_fewestMany : Int32) (v_this_fewestSets : Int32) (v_this_fewestSet : Int32) (v_this_fewestMost : Int32) (a_this_aside : Nat) (a_this_seens : Nat) (v_this_seenMany : Int32) (v_this_st : Nat → Int32) (v_this_aside : Nat → Int32) (v_this_told : Nat → Int32) (x1 : Int32) (x2 : Int32) (res : Int32 × (Nat → Int32) × (Nat → Int32)) (hf : f_X9_turns v_this_st v_this_aside v_this_told x1 x2 = some res) : ∀ sz, Met l yX9_turns wsX9_turns { frames := 6, cells := 0, slots := 0, locals := 132 } (PCx D (tyG cyI cyZ cyW) [.ref a_this, .int x1, .int x2] (w_X9_turns cyI cyZ cyW a_this a_this_told a_this_st a_this_text v_this_letters v_this_place v_this_token v_this_value v_this_begins a_this_read v_this_clauses a_this_ahead v_this_undoMany a_this_isKept a_this_kept v_this_fewestMany v_this_fewestSets v_this_fewestSet v_this_fewestMost a_this_aside a_this_seens v_this_seenMany v_this_st v_this_aside v_this_told) sz) (QI D (tyG cyI cyZ cyW) (w_X9_turns cyI cyZ cyW a_this a_this_told a_this_st a_this_text v_this_letters v_this_place v_this_token v_this_value v_this_begins a_this_read v_this_clauses a_this_ahead v_this_undoMany a_this_isKept a_this_kept v_this_fewestMany v_this_fewestSets v_this_fewestSet v_this_fewestMost a_this_aside a_this_seens v_this_seenMany v_this_st v_this_aside v_this_told) sz res.1 (w_X9_turns cyI cyZ cyW a_this a_this_told a_this_st a_this_text v_this_letters v_this_place v_this_token v_this_value v_this_begins a_this_read v_this_clauses a_this_ahead v_this_undoMany a_this_isKept a_this_kept v_this_fewestMany v_this_fewestSets v_this_fewestSet v_this_fewestMost a_this_aside a_this_seens v_this_seenMany res.2.1 res.2.2 v_this_told)) 0 0 (va_A (w_X9_turns cyI cyZ cyW a_this a_this_told a_this_st a_this_text v_this_letters v_this_place v_this_token v_this_value v_this_begins a_this_read v_this_clauses a_this_ahead v_this_undoMany a_this_isKept a_this_kept v_this_fewestMany v_this_fewestSets v_this_fewestSet v_this_fewestMost a_this_aside a_this_seens v_this_seenMany v_this_st v_this_aside v_this_told) sz) := by
  intro sz
  refine met_of (cc := cX9_turns) (maxL := 12) (ret := (some .int)) (lv0 := [(0, .ref a_this), (1, .int x1), (2, .int x2)]) (by decide) rfl ⟨(Nat.le_of_ble_eq_true rfl), rfl⟩ ?_
  intro p e s m below meth c C hr hlk hnm hsz
  subst hsz
  have C : CX p s m _ c 12 cX9_turns RX9 wsX9_turns D (tyG cyI cyZ cyW) _ := C
  obtain ⟨Z, hZ⟩ : ∃ Z : va_W → Nat → LV → List Value → Prop, Z = ST p l e { frames := 6, cells := 0, slots := 0, locals := 132 } s m [.ref a_this, .int x1, .int x2].toArray below meth c 12 D (va_A (w_X9_turns cyI cyZ cyW a_this a_this_told a_this_st a_this_text v_this_letters v_this_place v_this_token v_this_value v_this_begins a_this_read v_this_clauses a_this_ahead v_this_undoMany a_this_isKept a_this_kept v_this_fewestMany v_this_fewestSets v_this_fewestSet v_this_fewestMost a_this_aside a_this_seens v_this_seenMany v_this_st v_this_aside v_this_told) s.heap.size) (MQ below (QI D (tyG cyI cyZ cyW) (w_X9_turns cyI cyZ cyW a_this a_this_told a_this_st a_this_text v_this_letters v_this_place v_this_token v_this_value v_this_begins a_this_read v_this_clauses a_this_ahead v_this_undoMany a_this_isKept a_this_kept v_this_fewestMany v_this_fewestSets v_this_fewestSet v_this_fewestMost a_this_aside a_this_seens v_this_seenMany v_this_st v_this_aside v_this_told) s.heap.size res.1 (w_X9_turns cyI cyZ cyW a_this a_this_told a_this_st a_this_text v_this_letters v_this_place v_this_token v_this_value v_this_begins a_this_read v_this_clauses a_this_ahead v_this_undoMany a_this_isKept a_this_kept v_this_fewestMany v_this_fewestSets v_this_fewestSet v_this_fewestMost a_this_aside a_this_seens v_this_seenMany res.2.1 res.2.2 v_this_told)) [.ref a_this, .int x1, .int x2].toArray s 0 0 (va_A (w_X9_turns cyI cyZ cyW a_this a_this_told a_this_st a_this_text v_this_letters v_this_place v_this_token v_this_value v_this_begins a_this_read v_this_clauses a_this_ahead v_this_undoMany a_this_isKept a_this_kept v_this_fewestMany v_this_fewestSets v_this_fewestSet v_this_fewestMost a_this_aside a_this_seens v_this_seenMany v_this_st v_this_aside v_this_told) s.heap.size)) 0 0 := ⟨_, rfl⟩
  have hb_289 : ∀ (k_259 : Int32 → Int32 → Int32 → Int32 → Int32 → (Nat → Int32) → (Nat → Int32) → Option (Int32 × (Nat → Int32) × (Nat → Int32))), (∀ (x1 : Int32) (x2 : Int32) (x6 : Int32) (x7 : Int32) (x8 : Int32) (v_this_st : Nat → Int32) (v_this_aside : Nat → Int32), k_259 x1 x2 x6 x7 x8 v_this_st v_this_aside = some res → Z (w_X9_turns cyI cyZ cyW a_this a_this_told a_this_st a_this_text v_this_letters v_this_place v_this_token v_this_value v_this_begins a_this_read v_this_clauses a_this_ahead v_this_undoMany a_this_isKept a_this_kept v_this_fewestMany v_this_fewestSets v_this_fewestSet v_this_fewestMost a_this_aside a_this_seens v_this_seenMany v_this_st v_this_aside v_this_told) 259 [(0, .ref a_this), (1, .int x1), (2, .int x2), (6, .int x6), (7, .int x7), (8, .int x8)] []) → ∀ (x1 : Int32) (x2 : Int32) (x6 : Int32) (x8 : Int32) (s0 : Int32) (v_this_st : Nat → Int32) (v_this_aside : Nat → Int32), f_X9_turns_b289 v_this_told k_259 x1 x2 x6 x8 s0 v_this_st v_this_aside = some res → Z (w_X9_turns cyI cyZ cyW a_this a_this_told a_this_st a_this_text v_this_letters v_this_place v_this_token v_this_value v_this_begins a_this_read v_this_clauses a_this_ahead v_this_undoMany a_this_isKept a_this_kept v_this_fewestMany v_this_fewestSets v_this_fewestSet v_this_fewestMost a_this_aside a_this_seens v_this_seenMany v_this_st v_this_aside v_this_told) 289 [(0, .ref a_this), (1, .int x1), (2, .int x2), (6, .int x6), (8, .int x8)] [.int s0] := by
    subst hZ
    intro k_259 hk_259 x1 x2 x6 x8 s0 v_this_st v_this_aside hf
    refine r_istore (lv' := [(7, .int s0), (0, .ref a_this), (1, .int x1), (2, .int x2), (6, .int x6), (8, .int x8)]) C dX9_turns_289 (by decide) rfl ?_
    refine r_iinc (v := 1) (k := 5) (lv' := [(8, .int (x8 + 1)), (7, .int s0), (0, .ref a_this), (1, .int x1), (2, .int x2), (6, .int x6)]) C dX9_turns_291 rfl (by decide) (by decide) rfl ?_
    refine r_goto C 259 dX9_turns_294 (by decide) ?_
    exact ST_lv [2, 3, 4, 5, 1, 0] rfl (hk_259 x1 x2 x6 s0 (x8 + 1) v_this_st v_this_aside hf)
  have hs_259 : ∀ (k_259 : Int32 → Int32 → Int32 → Int32 → Int32 → (Nat → Int32) → (Nat → Int32) → Option (Int32 × (Nat → Int32) × (Nat → Int32))), (∀ (x1 : Int32) (x2 : Int32) (x6 : Int32) (x7 : Int32) (x8 : Int32) (v_this_st : Nat → Int32) (v_this_aside : Nat → Int32), k_259 x1 x2 x6 x7 x8 v_this_st v_this_aside = some res → Z (w_X9_turns cyI cyZ cyW a_this a_this_told a_this_st a_this_text v_this_letters v_this_place v_this_token v_this_value v_this_begins a_this_read v_this_clauses a_this_ahead v_this_undoMany a_this_isKept a_this_kept v_this_fewestMany v_this_fewestSets v_this_fewestSet v_this_fewestMost a_this_aside a_this_seens v_this_seenMany v_this_st v_this_aside v_this_told) 259 [(0, .ref a_this), (1, .int x1), (2, .int x2), (6, .int x6), (7, .int x7), (8, .int x8)] []) → ∀ (x1 : Int32) (x2 : Int32) (x6 : Int32) (x7 : Int32) (x8 : Int32) (v_this_st : Nat → Int32) (v_this_aside : Nat → Int32), f_X9_turns_s259 v_this_told k_259 x1 x2 x6 x7 x8 v_this_st v_this_aside = some res → Z (w_X9_turns cyI cyZ cyW a_this a_this_told a_this_st a_this_text v_this_letters v_this_place v_this_token v_this_value v_this_begins a_this_read v_this_clauses a_this_ahead v_this_undoMany a_this_isKept a_this_kept v_this_fewestMany v_this_fewestSets v_this_fewestSet v_this_fewestMost a_this_aside a_this_seens v_this_seenMany v_this_st v_this_aside v_this_told) 259 [(0, .ref a_this), (1, .int x1), (2, .int x2), (6, .int x6), (7, .int x7), (8, .int x8)] [] := by
    subst hZ
    intro k_259 hk_259 x1 x2 x6 x7 x8 v_this_st v_this_aside hf
    refine r_iload C dX9_turns_259 5 rfl ?_
    refine r_iload_n C dX9_turns_261 rfl 2 rfl ?_
    refine r_iconst C 2 dX9_turns_262 (by decide) ?_
    refine r_isub C dX9_turns_263 ?_
    refine r_icmp_gt C 297 dX9_turns_264 (by decide) hf (fun hf => ?_) (fun hf => ?_)
    · refine r_iload_n C dX9_turns_297 rfl 2 rfl ?_
      refine r_iconst C 2 dX9_turns_298 (by decide) ?_
      refine r_isub C dX9_turns_299 ?_
      refine r_iload_n C dX9_turns_300 rfl 1 rfl ?_
      refine r_icmp_ge C 323 dX9_turns_301 (by decide) hf (fun hf => ?_) (fun hf => ?_)
      · refine r_iconst C (-1) dX9_turns_323 (by decide) ?_
        rw [← Option.some.inj hf]
        exact r_iret C hr hlk dX9_turns_324
      · refine r_iload C dX9_turns_304 3 rfl ?_
        refine r_iload C dX9_turns_306 4 rfl ?_
        obtain ⟨hz20, hf⟩ := nz_some hf
        refine r_idiv C dX9_turns_308 hz20 ?_
        refine r_aload_n C dX9_turns_309 rfl 0 rfl ?_
        refine r_get C in_X9_turns_X9 0 rfl rfl 0 (by decide) lk_X9_turns_5 rfl rfl dX9_turns_310 ?_
        refine r_iconst C 0 dX9_turns_313 (by decide) ?_
        refine r_iald_k C 0 3 0 rfl rfl (kk_ 0 37 (by decide) (by decide)) dX9_turns_314 ?_
        refine r_iconst C 1 dX9_turns_315 (by decide) ?_
        refine r_iadd C dX9_turns_316 ?_
        obtain ⟨hz21, hf⟩ := nz_some hf
        refine r_irem C dX9_turns_317 hz21 ?_
        refine r_iconst C 1 dX9_turns_318 (by decide) ?_
        refine r_isub C dX9_turns_319 ?_
        refine r_goto C 324 dX9_turns_320 (by decide) ?_
        rw [← Option.some.inj hf]
        exact r_iret C hr hlk dX9_turns_324
    · refine r_iload C dX9_turns_267 5 rfl ?_
      refine r_iload_n C dX9_turns_269 rfl 1 rfl ?_
      refine r_icmp_ge C 287 dX9_turns_270 (by decide) hf (fun hf => ?_) (fun hf => ?_)
      · refine r_iload C dX9_turns_287 4 rfl ?_
        exact ST_lv [0, 1, 2, 3, 5] rfl (hb_289 k_259 hk_259 x1 x2 x6 x8 x7 v_this_st v_this_aside hf)
      · refine r_iload C dX9_turns_273 4 rfl ?_
        refine r_aload_n C dX9_turns_275 rfl 0 rfl ?_
        refine r_get C in_X9_turns_X9 0 rfl rfl 0 (by decide) lk_X9_turns_5 rfl rfl dX9_turns_276 ?_
        refine r_iconst C 0 dX9_turns_279 (by decide) ?_
        refine r_iald_k C 0 3 0 rfl rfl (kk_ 0 37 (by decide) (by decide)) dX9_turns_280 ?_
        refine r_iconst C 1 dX9_turns_281 (by decide) ?_
        refine r_iadd C dX9_turns_282 ?_
        obtain ⟨hz22, hf⟩ := nz_some hf
        refine r_idiv C dX9_turns_283 hz22 ?_
        refine r_goto C 289 dX9_turns_284 (by decide) ?_
        exact ST_lv [0, 1, 2, 3, 5] rfl (hb_289 k_259 hk_259 x1 x2 x6 x8 (x7 / ((v_this_told 0) + 1)) v_this_st v_this_aside hf)
  have hb_259 : ∀ (n : Nat) (x1 : Int32) (x2 : Int32) (x6 : Int32) (x7 : Int32) (x8 : Int32) (v_this_st : Nat → Int32) (v_this_aside : Nat → Int32), f_X9_turns_b259 v_this_told n x1 x2 x6 x7 x8 v_this_st v_this_aside = some res → Z (w_X9_turns cyI cyZ cyW a_this a_this_told a_this_st a_this_text v_this_letters v_this_place v_this_token v_this_value v_this_begins a_this_read v_this_clauses a_this_ahead v_this_undoMany a_this_isKept a_this_kept v_this_fewestMany v_this_fewestSets v_this_fewestSet v_this_fewestMost a_this_aside a_this_seens v_this_seenMany v_this_st v_this_aside v_this_told) 259 [(0, .ref a_this), (1, .int x1), (2, .int x2), (6, .int x6), (7, .int x7), (8, .int x8)] [] := by
    intro  n
    induction n with
    | zero => intro x1 x2 x6 x7 x8 v_this_st v_this_aside hf; exact nn_ hf
    | succ n ih => exact fun x1 x2 x6 x7 x8 v_this_st v_this_aside hf => hs_259 _ ih x1 x2 x6 x7 x8 v_this_st v_this_aside hf
  have hs_203 : ∀ (k_94 : Int32 → Int32 → Int32 → Int32 → Int32 → Int32 → Int32 → (Nat → Int32) → (Nat → Int32) → Option (Int32 × (Nat → Int32) × (Nat → Int32))), (∀ (x1 : Int32) (x2 : Int32) (x3 : Int32) (x4 : Int32) (x5 : Int32) (x6 : Int32) (x7 : Int32) (v_this_st : Nat → Int32) (v_this_aside : Nat → Int32), k_94 x1 x2 x3 x4 x5 x6 x7 v_this_st v_this_aside = some res → Z (w_X9_turns cyI cyZ cyW a_this a_this_told a_this_st a_this_text v_this_letters v_this_place v_this_token v_this_value v_this_begins a_this_read v_this_clauses a_this_ahead v_this_undoMany a_this_isKept a_this_kept v_this_fewestMany v_this_fewestSets v_this_fewestSet v_this_fewestMost a_this_aside a_this_seens v_this_seenMany v_this_st v_this_aside v_this_told) 94 [(0, .ref a_this), (1, .int x1), (2, .int x2), (3, .int x3), (4, .int x4), (5, .int x5), (6, .int x6), (7, .int x7)] []) → ∀ (k_203 : Int32 → Int32 → Int32 → Int32 → Int32 → Int32 → Int32 → Int32 → (Nat → Int32) → (Nat → Int32) → Option (Int32 × (Nat → Int32) × (Nat → Int32))), (∀ (x1 : Int32) (x2 : Int32) (x3 : Int32) (x4 : Int32) (x5 : Int32) (x6 : Int32) (x7 : Int32) (x11 : Int32) (v_this_st : Nat → Int32) (v_this_aside : Nat → Int32), k_203 x1 x2 x3 x4 x5 x6 x7 x11 v_this_st v_this_aside = some res → Z (w_X9_turns cyI cyZ cyW a_this a_this_told a_this_st a_this_text v_this_letters v_this_place v_this_token v_this_value v_this_begins a_this_read v_this_clauses a_this_ahead v_this_undoMany a_this_isKept a_this_kept v_this_fewestMany v_this_fewestSets v_this_fewestSet v_this_fewestMost a_this_aside a_this_seens v_this_seenMany v_this_st v_this_aside v_this_told) 203 [(0, .ref a_this), (1, .int x1), (2, .int x2), (3, .int x3), (4, .int x4), (5, .int x5), (6, .int x6), (7, .int x7), (11, .int x11)] []) → ∀ (x1 : Int32) (x2 : Int32) (x3 : Int32) (x4 : Int32) (x5 : Int32) (x6 : Int32) (x7 : Int32) (x11 : Int32) (v_this_st : Nat → Int32) (v_this_aside : Nat → Int32), f_X9_turns_s203 v_this_told k_94 k_203 x1 x2 x3 x4 x5 x6 x7 x11 v_this_st v_this_aside = some res → Z (w_X9_turns cyI cyZ cyW a_this a_this_told a_this_st a_this_text v_this_letters v_this_place v_this_token v_this_value v_this_begins a_this_read v_this_clauses a_this_ahead v_this_undoMany a_this_isKept a_this_kept v_this_fewestMany v_this_fewestSets v_this_fewestSet v_this_fewestMost a_this_aside a_this_seens v_this_seenMany v_this_st v_this_aside v_this_told) 203 [(0, .ref a_this), (1, .int x1), (2, .int x2), (3, .int x3), (4, .int x4), (5, .int x5), (6, .int x6), (7, .int x7), (11, .int x11)] [] := by
    subst hZ
    intro k_94 hk_94 k_203 hk_203 x1 x2 x3 x4 x5 x6 x7 x11 v_this_st v_this_aside hf
    refine r_iload C dX9_turns_203 8 rfl ?_
    refine r_bipush C 15 dX9_turns_205 (by decide) ?_
    refine r_icmp_ge C 230 dX9_turns_207 (by decide) hf (fun hf => ?_) (fun hf => ?_)
    · refine r_iinc (v := 1) (k := 7) (lv' := [(7, .int (x7 + 1)), (0, .ref a_this), (1, .int x1), (2, .int x2), (3, .int x3), (4, .int x4), (5, .int x5), (6, .int x6), (11, .int x11)]) C dX9_turns_230 rfl (by decide) (by decide) rfl ?_
      refine r_goto C 94 dX9_turns_233 (by decide) ?_
      exact ST_lv [1, 2, 3, 4, 5, 6, 7, 0] rfl (hk_94 x1 x2 x3 x4 x5 x6 (x7 + 1) v_this_st v_this_aside hf)
    · refine r_aload_n C dX9_turns_210 rfl 0 rfl ?_
      refine r_get C in_X9_turns_X9 0 rfl rfl 1 (by decide) lk_X9_turns_4 rfl rfl dX9_turns_211 ?_
      refine r_iload C dX9_turns_214 8 rfl ?_
      refine r_aload_n C dX9_turns_216 rfl 0 rfl ?_
      refine r_get C in_X9_turns_X9 0 rfl rfl 18 (by decide) lk_X9_turns_3 rfl rfl dX9_turns_217 ?_
      refine r_iload C dX9_turns_220 8 rfl ?_
      obtain ⟨hi18, hf⟩ := gd_some hf
      refine r_iald C 2 0 rfl rfl hi18 dX9_turns_222 ?_
      obtain ⟨hi19, hf⟩ := gd_some hf
      refine r_iast (ws' := (w_X9_turns cyI cyZ cyW a_this a_this_told a_this_st a_this_text v_this_letters v_this_place v_this_token v_this_value v_this_begins a_this_read v_this_clauses a_this_ahead v_this_undoMany a_this_isKept a_this_kept v_this_fewestMany v_this_fewestSets v_this_fewestSet v_this_fewestMost a_this_aside a_this_seens v_this_seenMany (upd v_this_st (Int32.toNatClampNeg x11) (v_this_aside (Int32.toNatClampNeg x11))) v_this_aside v_this_told)) C 1 0 rfl rfl hi19 rfl dX9_turns_223 ?_
      refine r_iinc (v := 1) (k := 8) (lv' := [(11, .int (x11 + 1)), (0, .ref a_this), (1, .int x1), (2, .int x2), (3, .int x3), (4, .int x4), (5, .int x5), (6, .int x6), (7, .int x7)]) C dX9_turns_224 rfl (by decide) (by decide) rfl ?_
      refine r_goto C 203 dX9_turns_227 (by decide) ?_
      exact ST_lv [1, 2, 3, 4, 5, 6, 7, 8, 0] rfl (hk_203 x1 x2 x3 x4 x5 x6 x7 (x11 + 1) (upd v_this_st (Int32.toNatClampNeg x11) (v_this_aside (Int32.toNatClampNeg x11))) v_this_aside hf)
  have hb_203 : ∀ (k_94 : Int32 → Int32 → Int32 → Int32 → Int32 → Int32 → Int32 → (Nat → Int32) → (Nat → Int32) → Option (Int32 × (Nat → Int32) × (Nat → Int32))), (∀ (x1 : Int32) (x2 : Int32) (x3 : Int32) (x4 : Int32) (x5 : Int32) (x6 : Int32) (x7 : Int32) (v_this_st : Nat → Int32) (v_this_aside : Nat → Int32), k_94 x1 x2 x3 x4 x5 x6 x7 v_this_st v_this_aside = some res → Z (w_X9_turns cyI cyZ cyW a_this a_this_told a_this_st a_this_text v_this_letters v_this_place v_this_token v_this_value v_this_begins a_this_read v_this_clauses a_this_ahead v_this_undoMany a_this_isKept a_this_kept v_this_fewestMany v_this_fewestSets v_this_fewestSet v_this_fewestMost a_this_aside a_this_seens v_this_seenMany v_this_st v_this_aside v_this_told) 94 [(0, .ref a_this), (1, .int x1), (2, .int x2), (3, .int x3), (4, .int x4), (5, .int x5), (6, .int x6), (7, .int x7)] []) → ∀ (n : Nat) (x1 : Int32) (x2 : Int32) (x3 : Int32) (x4 : Int32) (x5 : Int32) (x6 : Int32) (x7 : Int32) (x11 : Int32) (v_this_st : Nat → Int32) (v_this_aside : Nat → Int32), f_X9_turns_b203 v_this_told k_94 n x1 x2 x3 x4 x5 x6 x7 x11 v_this_st v_this_aside = some res → Z (w_X9_turns cyI cyZ cyW a_this a_this_told a_this_st a_this_text v_this_letters v_this_place v_this_token v_this_value v_this_begins a_this_read v_this_clauses a_this_ahead v_this_undoMany a_this_isKept a_this_kept v_this_fewestMany v_this_fewestSets v_this_fewestSet v_this_fewestMost a_this_aside a_this_seens v_this_seenMany v_this_st v_this_aside v_this_told) 203 [(0, .ref a_this), (1, .int x1), (2, .int x2), (3, .int x3), (4, .int x4), (5, .int x5), (6, .int x6), (7, .int x7), (11, .int x11)] [] := by
    intro k_94 hk_94 n
    induction n with
    | zero => intro x1 x2 x3 x4 x5 x6 x7 x11 v_this_st v_this_aside hf; exact nn_ hf
    | succ n ih => exact fun x1 x2 x3 x4 x5 x6 x7 x11 v_this_st v_this_aside hf => hs_203 k_94 hk_94 _ ih x1 x2 x3 x4 x5 x6 x7 x11 v_this_st v_this_aside hf
  have hb_200 : ∀ (k_94 : Int32 → Int32 → Int32 → Int32 → Int32 → Int32 → Int32 → (Nat → Int32) → (Nat → Int32) → Option (Int32 × (Nat → Int32) × (Nat → Int32))), (∀ (x1 : Int32) (x2 : Int32) (x3 : Int32) (x4 : Int32) (x5 : Int32) (x6 : Int32) (x7 : Int32) (v_this_st : Nat → Int32) (v_this_aside : Nat → Int32), k_94 x1 x2 x3 x4 x5 x6 x7 v_this_st v_this_aside = some res → Z (w_X9_turns cyI cyZ cyW a_this a_this_told a_this_st a_this_text v_this_letters v_this_place v_this_token v_this_value v_this_begins a_this_read v_this_clauses a_this_ahead v_this_undoMany a_this_isKept a_this_kept v_this_fewestMany v_this_fewestSets v_this_fewestSet v_this_fewestMost a_this_aside a_this_seens v_this_seenMany v_this_st v_this_aside v_this_told) 94 [(0, .ref a_this), (1, .int x1), (2, .int x2), (3, .int x3), (4, .int x4), (5, .int x5), (6, .int x6), (7, .int x7)] []) → ∀ (x1 : Int32) (x2 : Int32) (x3 : Int32) (x4 : Int32) (x5 : Int32) (x6 : Int32) (x7 : Int32) (v_this_st : Nat → Int32) (v_this_aside : Nat → Int32), f_X9_turns_b200 v_this_told k_94 x1 x2 x3 x4 x5 x6 x7 v_this_st v_this_aside = some res → Z (w_X9_turns cyI cyZ cyW a_this a_this_told a_this_st a_this_text v_this_letters v_this_place v_this_token v_this_value v_this_begins a_this_read v_this_clauses a_this_ahead v_this_undoMany a_this_isKept a_this_kept v_this_fewestMany v_this_fewestSets v_this_fewestSet v_this_fewestMost a_this_aside a_this_seens v_this_seenMany v_this_st v_this_aside v_this_told) 200 [(0, .ref a_this), (1, .int x1), (2, .int x2), (3, .int x3), (4, .int x4), (5, .int x5), (6, .int x6), (7, .int x7)] [] := by
    subst hZ
    intro k_94 hk_94 x1 x2 x3 x4 x5 x6 x7 v_this_st v_this_aside hf
    refine r_iconst C 0 dX9_turns_200 (by decide) ?_
    refine r_istore (lv' := [(11, .int 0), (0, .ref a_this), (1, .int x1), (2, .int x2), (3, .int x3), (4, .int x4), (5, .int x5), (6, .int x6), (7, .int x7)]) C dX9_turns_201 (by decide) rfl ?_
    exact ST_lv [1, 2, 3, 4, 5, 6, 7, 8, 0] rfl (hb_203 k_94 hk_94 5000 x1 x2 x3 x4 x5 x6 x7 0 v_this_st v_this_aside hf)
  have hb_188 : ∀ (k_94 : Int32 → Int32 → Int32 → Int32 → Int32 → Int32 → Int32 → (Nat → Int32) → (Nat → Int32) → Option (Int32 × (Nat → Int32) × (Nat → Int32))), (∀ (x1 : Int32) (x2 : Int32) (x3 : Int32) (x4 : Int32) (x5 : Int32) (x6 : Int32) (x7 : Int32) (v_this_st : Nat → Int32) (v_this_aside : Nat → Int32), k_94 x1 x2 x3 x4 x5 x6 x7 v_this_st v_this_aside = some res → Z (w_X9_turns cyI cyZ cyW a_this a_this_told a_this_st a_this_text v_this_letters v_this_place v_this_token v_this_value v_this_begins a_this_read v_this_clauses a_this_ahead v_this_undoMany a_this_isKept a_this_kept v_this_fewestMany v_this_fewestSets v_this_fewestSet v_this_fewestMost a_this_aside a_this_seens v_this_seenMany v_this_st v_this_aside v_this_told) 94 [(0, .ref a_this), (1, .int x1), (2, .int x2), (3, .int x3), (4, .int x4), (5, .int x5), (6, .int x6), (7, .int x7)] []) → ∀ (x1 : Int32) (x2 : Int32) (x3 : Int32) (x7 : Int32) (x9 : Int32) (x10 : Int32) (v_this_st : Nat → Int32) (v_this_aside : Nat → Int32), f_X9_turns_b188 v_this_told k_94 x1 x2 x3 x7 x9 x10 v_this_st v_this_aside = some res → Z (w_X9_turns cyI cyZ cyW a_this a_this_told a_this_st a_this_text v_this_letters v_this_place v_this_token v_this_value v_this_begins a_this_read v_this_clauses a_this_ahead v_this_undoMany a_this_isKept a_this_kept v_this_fewestMany v_this_fewestSets v_this_fewestSet v_this_fewestMost a_this_aside a_this_seens v_this_seenMany v_this_st v_this_aside v_this_told) 188 [(0, .ref a_this), (1, .int x1), (2, .int x2), (3, .int x3), (7, .int x7), (9, .int x9), (10, .int x10)] [] := by
    subst hZ
    intro k_94 hk_94 x1 x2 x3 x7 x9 x10 v_this_st v_this_aside hf
    refine r_iload C dX9_turns_188 5 rfl ?_
    refine r_istore (lv' := [(4, .int x9), (0, .ref a_this), (1, .int x1), (2, .int x2), (3, .int x3), (7, .int x7), (9, .int x9), (10, .int x10)]) C dX9_turns_190 (by decide) rfl ?_
    refine r_iload C dX9_turns_192 7 rfl ?_
    refine r_istore (lv' := [(5, .int x10), (4, .int x9), (0, .ref a_this), (1, .int x1), (2, .int x2), (3, .int x3), (7, .int x7), (9, .int x9), (10, .int x10)]) C dX9_turns_194 (by decide) rfl ?_
    refine r_iload C dX9_turns_196 6 rfl ?_
    refine r_istore (lv' := [(6, .int x7), (5, .int x10), (4, .int x9), (0, .ref a_this), (1, .int x1), (2, .int x2), (3, .int x3), (7, .int x7), (9, .int x9), (10, .int x10)]) C dX9_turns_198 (by decide) rfl ?_
    exact ST_lv [3, 4, 5, 6, 2, 1, 0, 7] rfl (hb_200 k_94 hk_94 x1 x2 x3 x9 x10 x7 x7 v_this_st v_this_aside hf)
  have hs_106 : ∀ (k_94 : Int32 → Int32 → Int32 → Int32 → Int32 → Int32 → Int32 → (Nat → Int32) → (Nat → Int32) → Option (Int32 × (Nat → Int32) × (Nat → Int32))), (∀ (x1 : Int32) (x2 : Int32) (x3 : Int32) (x4 : Int32) (x5 : Int32) (x6 : Int32) (x7 : Int32) (v_this_st : Nat → Int32) (v_this_aside : Nat → Int32), k_94 x1 x2 x3 x4 x5 x6 x7 v_this_st v_this_aside = some res → Z (w_X9_turns cyI cyZ cyW a_this a_this_told a_this_st a_this_text v_this_letters v_this_place v_this_token v_this_value v_this_begins a_this_read v_this_clauses a_this_ahead v_this_undoMany a_this_isKept a_this_kept v_this_fewestMany v_this_fewestSets v_this_fewestSet v_this_fewestMost a_this_aside a_this_seens v_this_seenMany v_this_st v_this_aside v_this_told) 94 [(0, .ref a_this), (1, .int x1), (2, .int x2), (3, .int x3), (4, .int x4), (5, .int x5), (6, .int x6), (7, .int x7)] []) → ∀ (k_106 : Int32 → Int32 → Int32 → Int32 → Int32 → Int32 → Int32 → Int32 → Int32 → (Nat → Int32) → (Nat → Int32) → Option (Int32 × (Nat → Int32) × (Nat → Int32))), (∀ (x1 : Int32) (x2 : Int32) (x3 : Int32) (x4 : Int32) (x5 : Int32) (x6 : Int32) (x7 : Int32) (x8 : Int32) (x9 : Int32) (v_this_st : Nat → Int32) (v_this_aside : Nat → Int32), k_106 x1 x2 x3 x4 x5 x6 x7 x8 x9 v_this_st v_this_aside = some res → Z (w_X9_turns cyI cyZ cyW a_this a_this_told a_this_st a_this_text v_this_letters v_this_place v_this_token v_this_value v_this_begins a_this_read v_this_clauses a_this_ahead v_this_undoMany a_this_isKept a_this_kept v_this_fewestMany v_this_fewestSets v_this_fewestSet v_this_fewestMost a_this_aside a_this_seens v_this_seenMany v_this_st v_this_aside v_this_told) 106 [(0, .ref a_this), (1, .int x1), (2, .int x2), (3, .int x3), (4, .int x4), (5, .int x5), (6, .int x6), (7, .int x7), (8, .int x8), (9, .int x9)] []) → ∀ (x1 : Int32) (x2 : Int32) (x3 : Int32) (x4 : Int32) (x5 : Int32) (x6 : Int32) (x7 : Int32) (x8 : Int32) (x9 : Int32) (v_this_st : Nat → Int32) (v_this_aside : Nat → Int32), f_X9_turns_s106 v_this_told k_94 k_106 x1 x2 x3 x4 x5 x6 x7 x8 x9 v_this_st v_this_aside = some res → Z (w_X9_turns cyI cyZ cyW a_this a_this_told a_this_st a_this_text v_this_letters v_this_place v_this_token v_this_value v_this_begins a_this_read v_this_clauses a_this_ahead v_this_undoMany a_this_isKept a_this_kept v_this_fewestMany v_this_fewestSets v_this_fewestSet v_this_fewestMost a_this_aside a_this_seens v_this_seenMany v_this_st v_this_aside v_this_told) 106 [(0, .ref a_this), (1, .int x1), (2, .int x2), (3, .int x3), (4, .int x4), (5, .int x5), (6, .int x6), (7, .int x7), (8, .int x8), (9, .int x9)] [] := by
    subst hZ
    intro k_94 hk_94 k_106 hk_106 x1 x2 x3 x4 x5 x6 x7 x8 x9 v_this_st v_this_aside hf
    refine r_iload C dX9_turns_106 9 rfl ?_
    refine r_iload_n C dX9_turns_108 rfl 1 rfl ?_
    refine r_icmp_ge C 152 dX9_turns_109 (by decide) hf (fun hf => ?_) (fun hf => ?_)
    · refine r_aload_n C dX9_turns_152 rfl 0 rfl ?_
      obtain ⟨y7, hy8, hf⟩ := bd_some hf
      refine r_roV_i (As := []) (rest := []) C (c_X9_frozen l D cyI cyZ cyW a_this a_this_told a_this_st a_this_text v_this_letters v_this_place v_this_token v_this_value v_this_begins a_this_read v_this_clauses a_this_ahead v_this_undoMany a_this_isKept a_this_kept v_this_fewestMany v_this_fewestSets v_this_fewestSet v_this_fewestMost a_this_aside a_this_seens v_this_seenMany v_this_told v_this_st y7 hy8) gX9_turns_X9_frozen rfl hyV_X9_frozen ⟨rfl, rfl, (Nat.le_of_ble_eq_true rfl), (Nat.le_of_ble_eq_true rfl)⟩ rfl 0 rfl rfl [0, 3, 1] rfl rfl rfl (Nat.le_of_ble_eq_true rfl) ⟨Nat.zero_le _, Nat.zero_le _⟩ dX9_turns_153 ?_
      obtain ⟨y9, hy10, hf⟩ := bd_some hf
      refine r_roS_i (As := [.int y7]) (rest := []) C (c_X9_ones l D cyI cyZ cyW y7 y9 hy10) gX9_turns_X9_ones rfl hyS_X9_ones ⟨rfl, rfl, (Nat.le_of_ble_eq_true rfl), (Nat.le_of_ble_eq_true rfl)⟩ rfl [] rfl rfl rfl (Nat.le_of_ble_eq_true rfl) ⟨Nat.zero_le _, Nat.zero_le _⟩ dX9_turns_156 ?_
      refine r_istore (lv' := [(9, .int y9), (0, .ref a_this), (1, .int x1), (2, .int x2), (3, .int x3), (4, .int x4), (5, .int x5), (6, .int x6), (7, .int x7), (8, .int x8)]) C dX9_turns_159 (by decide) rfl ?_
      refine r_aload_n C dX9_turns_161 rfl 1 rfl ?_
      obtain ⟨y11, hy12, hf⟩ := bd_some hf
      refine r_roV_i (As := []) (rest := []) C (c_X9_healthOfAll l D cyI cyZ cyW a_this a_this_told a_this_st a_this_text v_this_letters v_this_place v_this_token v_this_value v_this_begins a_this_read v_this_clauses a_this_ahead v_this_undoMany a_this_isKept a_this_kept v_this_fewestMany v_this_fewestSets v_this_fewestSet v_this_fewestMost a_this_aside a_this_seens v_this_seenMany v_this_told v_this_st y11 hy12) gX9_turns_X9_healthOfAll rfl hyV_X9_healthOfAll ⟨rfl, rfl, (Nat.le_of_ble_eq_true rfl), (Nat.le_of_ble_eq_true rfl)⟩ rfl 0 rfl rfl [0, 3, 1] rfl rfl rfl (Nat.le_of_ble_eq_true rfl) ⟨Nat.zero_le _, Nat.zero_le _⟩ dX9_turns_162 ?_
      refine r_istore (lv' := [(10, .int y11), (9, .int y9), (0, .ref a_this), (1, .int x1), (2, .int x2), (3, .int x3), (4, .int x4), (5, .int x5), (6, .int x6), (7, .int x7), (8, .int x8)]) C dX9_turns_165 (by decide) rfl ?_
      refine r_iload C dX9_turns_167 1 rfl ?_
      refine r_iload C dX9_turns_169 6 rfl ?_
      refine r_icmp_lt C 188 dX9_turns_171 (by decide) hf (fun hf => ?_) (fun hf => ?_)
      · exact ST_lv [2, 3, 4, 5, 9, 1, 0] rfl (hb_188 k_94 hk_94 x1 x2 x3 x7 y9 y11 v_this_st v_this_aside hf)
      · refine r_iload C dX9_turns_174 1 rfl ?_
        refine r_iload C dX9_turns_176 6 rfl ?_
        refine r_icmp_ne C 200 dX9_turns_178 (by decide) hf (fun hf => ?_) (fun hf => ?_)
        · exact ST_lv [2, 3, 4, 5, 6, 7, 8, 9] rfl (hb_200 k_94 hk_94 x1 x2 x3 x4 x5 x6 x7 v_this_st v_this_aside hf)
        · refine r_iload C dX9_turns_181 0 rfl ?_
          refine r_iload C dX9_turns_183 7 rfl ?_
          refine r_icmp_le C 200 dX9_turns_185 (by decide) hf (fun hf => ?_) (fun hf => ?_)
          · exact ST_lv [2, 3, 4, 5, 6, 7, 8, 9] rfl (hb_200 k_94 hk_94 x1 x2 x3 x4 x5 x6 x7 v_this_st v_this_aside hf)
          · exact ST_lv [2, 3, 4, 5, 9, 1, 0] rfl (hb_188 k_94 hk_94 x1 x2 x3 x7 y9 y11 v_this_st v_this_aside hf)
    · refine r_iload C dX9_turns_112 8 rfl ?_
      refine r_aload_n C dX9_turns_114 rfl 0 rfl ?_
      refine r_get C in_X9_turns_X9 0 rfl rfl 0 (by decide) lk_X9_turns_5 rfl rfl dX9_turns_115 ?_
      refine r_iconst C 0 dX9_turns_118 (by decide) ?_
      refine r_iald_k C 0 3 0 rfl rfl (kk_ 0 37 (by decide) (by decide)) dX9_turns_119 ?_
      refine r_iconst C 1 dX9_turns_120 (by decide) ?_
      refine r_iadd C dX9_turns_121 ?_
      obtain ⟨hz13, hf⟩ := nz_some hf
      refine r_idiv C dX9_turns_122 hz13 ?_
      refine r_istore (lv' := [(8, .int (x8 / ((v_this_told 0) + 1))), (0, .ref a_this), (1, .int x1), (2, .int x2), (3, .int x3), (4, .int x4), (5, .int x5), (6, .int x6), (7, .int x7), (9, .int x9)]) C dX9_turns_123 (by decide) rfl ?_
      refine r_aload_n C dX9_turns_125 rfl 1 rfl ?_
      refine r_iload C dX9_turns_126 8 rfl ?_
      refine r_iload C dX9_turns_128 0 rfl ?_
      obtain ⟨hz14, hf⟩ := nz_some hf
      refine r_idiv C dX9_turns_130 hz14 ?_
      refine r_aload_n C dX9_turns_131 rfl 1 rfl ?_
      refine r_get C in_X9_turns_X9 0 rfl rfl 0 (by decide) lk_X9_turns_5 rfl rfl dX9_turns_132 ?_
      refine r_iconst C 0 dX9_turns_135 (by decide) ?_
      refine r_iald_k C 0 3 0 rfl rfl (kk_ 0 37 (by decide) (by decide)) dX9_turns_136 ?_
      refine r_iconst C 1 dX9_turns_137 (by decide) ?_
      refine r_iadd C dX9_turns_138 ?_
      obtain ⟨hz15, hf⟩ := nz_some hf
      refine r_irem C dX9_turns_139 hz15 ?_
      refine r_iconst C 1 dX9_turns_140 (by decide) ?_
      refine r_isub C dX9_turns_141 ?_
      obtain ⟨y16_0, y16_1, hy17, hf⟩ := bd2_some hf
      refine r_callV_i (As := [.int (((x7 / (x8 / ((v_this_told 0) + 1))) - (x7 / (x8 / ((v_this_told 0) + 1))) / ((v_this_told 0) + 1) * ((v_this_told 0) + 1)) - 1)]) (rest := []) (ws' := (w_X9_turns cyI cyZ cyW a_this a_this_told a_this_st a_this_text v_this_letters v_this_place v_this_token v_this_value v_this_begins a_this_read v_this_clauses a_this_ahead v_this_undoMany a_this_isKept a_this_kept v_this_fewestMany v_this_fewestSets v_this_fewestSet v_this_fewestMost a_this_aside a_this_seens v_this_seenMany y16_1 v_this_aside v_this_told)) C (c_X9_oneDay l D cyI cyZ cyW a_this a_this_told a_this_st a_this_text v_this_letters v_this_place v_this_token v_this_value v_this_begins a_this_read v_this_clauses a_this_ahead v_this_undoMany a_this_isKept a_this_kept v_this_fewestMany v_this_fewestSets v_this_fewestSet v_this_fewestMost a_this_aside a_this_seens v_this_seenMany v_this_told v_this_st (((x7 / (x8 / ((v_this_told 0) + 1))) - (x7 / (x8 / ((v_this_told 0) + 1))) / ((v_this_told 0) + 1) * ((v_this_told 0) + 1)) - 1) (y16_0, y16_1) hy17) gX9_turns_X9_oneDay rfl hyV_X9_oneDay ⟨rfl, rfl, (Nat.le_of_ble_eq_true rfl), (Nat.le_of_ble_eq_true rfl)⟩ rfl 0 rfl rfl [0, 3, 1] rfl rfl rfl rfl rfl (Nat.le_of_ble_eq_true rfl) ⟨Nat.zero_le _, Nat.zero_le _⟩ dX9_turns_142 ?_
      refine r_pop C dX9_turns_145 rfl ?_
      refine r_iinc (v := 1) (k := 9) (lv' := [(9, .int (x9 + 1)), (8, .int (x8 / ((v_this_told 0) + 1))), (0, .ref a_this), (1, .int x1), (2, .int x2), (3, .int x3), (4, .int x4), (5, .int x5), (6, .int x6), (7, .int x7)]) C dX9_turns_146 rfl (by decide) (by decide) rfl ?_
      refine r_goto C 106 dX9_turns_149 (by decide) ?_
      exact ST_lv [2, 3, 4, 5, 6, 7, 8, 9, 1, 0] rfl (hk_106 x1 x2 x3 x4 x5 x6 x7 (x8 / ((v_this_told 0) + 1)) (x9 + 1) y16_1 v_this_aside hf)
  have hb_106 : ∀ (k_94 : Int32 → Int32 → Int32 → Int32 → Int32 → Int32 → Int32 → (Nat → Int32) → (Nat → Int32) → Option (Int32 × (Nat → Int32) × (Nat → Int32))), (∀ (x1 : Int32) (x2 : Int32) (x3 : Int32) (x4 : Int32) (x5 : Int32) (x6 : Int32) (x7 : Int32) (v_this_st : Nat → Int32) (v_this_aside : Nat → Int32), k_94 x1 x2 x3 x4 x5 x6 x7 v_this_st v_this_aside = some res → Z (w_X9_turns cyI cyZ cyW a_this a_this_told a_this_st a_this_text v_this_letters v_this_place v_this_token v_this_value v_this_begins a_this_read v_this_clauses a_this_ahead v_this_undoMany a_this_isKept a_this_kept v_this_fewestMany v_this_fewestSets v_this_fewestSet v_this_fewestMost a_this_aside a_this_seens v_this_seenMany v_this_st v_this_aside v_this_told) 94 [(0, .ref a_this), (1, .int x1), (2, .int x2), (3, .int x3), (4, .int x4), (5, .int x5), (6, .int x6), (7, .int x7)] []) → ∀ (n : Nat) (x1 : Int32) (x2 : Int32) (x3 : Int32) (x4 : Int32) (x5 : Int32) (x6 : Int32) (x7 : Int32) (x8 : Int32) (x9 : Int32) (v_this_st : Nat → Int32) (v_this_aside : Nat → Int32), f_X9_turns_b106 v_this_told k_94 n x1 x2 x3 x4 x5 x6 x7 x8 x9 v_this_st v_this_aside = some res → Z (w_X9_turns cyI cyZ cyW a_this a_this_told a_this_st a_this_text v_this_letters v_this_place v_this_token v_this_value v_this_begins a_this_read v_this_clauses a_this_ahead v_this_undoMany a_this_isKept a_this_kept v_this_fewestMany v_this_fewestSets v_this_fewestSet v_this_fewestMost a_this_aside a_this_seens v_this_seenMany v_this_st v_this_aside v_this_told) 106 [(0, .ref a_this), (1, .int x1), (2, .int x2), (3, .int x3), (4, .int x4), (5, .int x5), (6, .int x6), (7, .int x7), (8, .int x8), (9, .int x9)] [] := by
    intro k_94 hk_94 n
    induction n with
    | zero => intro x1 x2 x3 x4 x5 x6 x7 x8 x9 v_this_st v_this_aside hf; exact nn_ hf
    | succ n ih => exact fun x1 x2 x3 x4 x5 x6 x7 x8 x9 v_this_st v_this_aside hf => hs_106 k_94 hk_94 _ ih x1 x2 x3 x4 x5 x6 x7 x8 x9 v_this_st v_this_aside hf
  have hs_94 : ∀ (k_94 : Int32 → Int32 → Int32 → Int32 → Int32 → Int32 → Int32 → (Nat → Int32) → (Nat → Int32) → Option (Int32 × (Nat → Int32) × (Nat → Int32))), (∀ (x1 : Int32) (x2 : Int32) (x3 : Int32) (x4 : Int32) (x5 : Int32) (x6 : Int32) (x7 : Int32) (v_this_st : Nat → Int32) (v_this_aside : Nat → Int32), k_94 x1 x2 x3 x4 x5 x6 x7 v_this_st v_this_aside = some res → Z (w_X9_turns cyI cyZ cyW a_this a_this_told a_this_st a_this_text v_this_letters v_this_place v_this_token v_this_value v_this_begins a_this_read v_this_clauses a_this_ahead v_this_undoMany a_this_isKept a_this_kept v_this_fewestMany v_this_fewestSets v_this_fewestSet v_this_fewestMost a_this_aside a_this_seens v_this_seenMany v_this_st v_this_aside v_this_told) 94 [(0, .ref a_this), (1, .int x1), (2, .int x2), (3, .int x3), (4, .int x4), (5, .int x5), (6, .int x6), (7, .int x7)] []) → ∀ (x1 : Int32) (x2 : Int32) (x3 : Int32) (x4 : Int32) (x5 : Int32) (x6 : Int32) (x7 : Int32) (v_this_st : Nat → Int32) (v_this_aside : Nat → Int32), f_X9_turns_s94 v_this_told k_94 x1 x2 x3 x4 x5 x6 x7 v_this_st v_this_aside = some res → Z (w_X9_turns cyI cyZ cyW a_this a_this_told a_this_st a_this_text v_this_letters v_this_place v_this_token v_this_value v_this_begins a_this_read v_this_clauses a_this_ahead v_this_undoMany a_this_isKept a_this_kept v_this_fewestMany v_this_fewestSets v_this_fewestSet v_this_fewestMost a_this_aside a_this_seens v_this_seenMany v_this_st v_this_aside v_this_told) 94 [(0, .ref a_this), (1, .int x1), (2, .int x2), (3, .int x3), (4, .int x4), (5, .int x5), (6, .int x6), (7, .int x7)] [] := by
    subst hZ
    intro k_94 hk_94 x1 x2 x3 x4 x5 x6 x7 v_this_st v_this_aside hf
    refine r_iload C dX9_turns_94 7 rfl ?_
    refine r_iload_n C dX9_turns_96 rfl 3 rfl ?_
    refine r_icmp_ge C 236 dX9_turns_97 (by decide) hf (fun hf => ?_) (fun hf => ?_)
    · refine r_iload_n C dX9_turns_236 rfl 2 rfl ?_
      refine r_iconst C 2 dX9_turns_237 (by decide) ?_
      refine r_icmp_ge C 253 dX9_turns_238 (by decide) hf (fun hf => ?_) (fun hf => ?_)
      · refine r_iload_n C dX9_turns_253 rfl 3 rfl ?_
        refine r_istore (lv' := [(7, .int x3), (0, .ref a_this), (1, .int x1), (2, .int x2), (3, .int x3), (4, .int x4), (5, .int x5), (6, .int x6)]) C dX9_turns_254 (by decide) rfl ?_
        refine r_iconst C 0 dX9_turns_256 (by decide) ?_
        refine r_istore (lv' := [(8, .int 0), (7, .int x3), (0, .ref a_this), (1, .int x1), (2, .int x2), (3, .int x3), (4, .int x4), (5, .int x5), (6, .int x6)]) C dX9_turns_257 (by decide) rfl ?_
        exact ST_lv [2, 3, 4, 8, 1, 0] rfl (hb_259 5000 x1 x2 x6 x3 0 v_this_st v_this_aside hf)
      · refine r_iload_n C dX9_turns_241 rfl 2 rfl ?_
        refine r_if_ne C 250 dX9_turns_242 (by decide) hf (fun hf => ?_) (fun hf => ?_)
        · refine r_iload C dX9_turns_250 5 rfl ?_
          rw [← Option.some.inj hf]
          exact r_iret C hr hlk dX9_turns_252
        · refine r_iload C dX9_turns_245 4 rfl ?_
          refine r_goto C 252 dX9_turns_247 (by decide) ?_
          rw [← Option.some.inj hf]
          exact r_iret C hr hlk dX9_turns_252
    · refine r_iload_n C dX9_turns_100 rfl 3 rfl ?_
      refine r_istore (lv' := [(8, .int x3), (0, .ref a_this), (1, .int x1), (2, .int x2), (3, .int x3), (4, .int x4), (5, .int x5), (6, .int x6), (7, .int x7)]) C dX9_turns_101 (by decide) rfl ?_
      refine r_iconst C 0 dX9_turns_103 (by decide) ?_
      refine r_istore (lv' := [(9, .int 0), (8, .int x3), (0, .ref a_this), (1, .int x1), (2, .int x2), (3, .int x3), (4, .int x4), (5, .int x5), (6, .int x6), (7, .int x7)]) C dX9_turns_104 (by decide) rfl ?_
      exact ST_lv [2, 3, 4, 5, 6, 7, 8, 9, 1, 0] rfl (hb_106 k_94 hk_94 5000 x1 x2 x3 x4 x5 x6 x7 x3 0 v_this_st v_this_aside hf)
  have hb_94 : ∀ (n : Nat) (x1 : Int32) (x2 : Int32) (x3 : Int32) (x4 : Int32) (x5 : Int32) (x6 : Int32) (x7 : Int32) (v_this_st : Nat → Int32) (v_this_aside : Nat → Int32), f_X9_turns_b94 v_this_told n x1 x2 x3 x4 x5 x6 x7 v_this_st v_this_aside = some res → Z (w_X9_turns cyI cyZ cyW a_this a_this_told a_this_st a_this_text v_this_letters v_this_place v_this_token v_this_value v_this_begins a_this_read v_this_clauses a_this_ahead v_this_undoMany a_this_isKept a_this_kept v_this_fewestMany v_this_fewestSets v_this_fewestSet v_this_fewestMost a_this_aside a_this_seens v_this_seenMany v_this_st v_this_aside v_this_told) 94 [(0, .ref a_this), (1, .int x1), (2, .int x2), (3, .int x3), (4, .int x4), (5, .int x5), (6, .int x6), (7, .int x7)] [] := by
    intro  n
    induction n with
    | zero => intro x1 x2 x3 x4 x5 x6 x7 v_this_st v_this_aside hf; exact nn_ hf
    | succ n ih => exact fun x1 x2 x3 x4 x5 x6 x7 v_this_st v_this_aside hf => hs_94 _ ih x1 x2 x3 x4 x5 x6 x7 v_this_st v_this_aside hf
  have hs_58 : ∀ (k_58 : Int32 → Int32 → Int32 → Int32 → (Nat → Int32) → (Nat → Int32) → Option (Int32 × (Nat → Int32) × (Nat → Int32))), (∀ (x1 : Int32) (x2 : Int32) (x3 : Int32) (x4 : Int32) (v_this_st : Nat → Int32) (v_this_aside : Nat → Int32), k_58 x1 x2 x3 x4 v_this_st v_this_aside = some res → Z (w_X9_turns cyI cyZ cyW a_this a_this_told a_this_st a_this_text v_this_letters v_this_place v_this_token v_this_value v_this_begins a_this_read v_this_clauses a_this_ahead v_this_undoMany a_this_isKept a_this_kept v_this_fewestMany v_this_fewestSets v_this_fewestSet v_this_fewestMost a_this_aside a_this_seens v_this_seenMany v_this_st v_this_aside v_this_told) 58 [(0, .ref a_this), (1, .int x1), (2, .int x2), (3, .int x3), (4, .int x4)] []) → ∀ (x1 : Int32) (x2 : Int32) (x3 : Int32) (x4 : Int32) (v_this_st : Nat → Int32) (v_this_aside : Nat → Int32), f_X9_turns_s58 v_this_told k_58 x1 x2 x3 x4 v_this_st v_this_aside = some res → Z (w_X9_turns cyI cyZ cyW a_this a_this_told a_this_st a_this_text v_this_letters v_this_place v_this_token v_this_value v_this_begins a_this_read v_this_clauses a_this_ahead v_this_undoMany a_this_isKept a_this_kept v_this_fewestMany v_this_fewestSets v_this_fewestSet v_this_fewestMost a_this_aside a_this_seens v_this_seenMany v_this_st v_this_aside v_this_told) 58 [(0, .ref a_this), (1, .int x1), (2, .int x2), (3, .int x3), (4, .int x4)] [] := by
    subst hZ
    intro k_58 hk_58 x1 x2 x3 x4 v_this_st v_this_aside hf
    refine r_iload C dX9_turns_58 4 rfl ?_
    refine r_iload_n C dX9_turns_60 rfl 1 rfl ?_
    refine r_icmp_ge C 81 dX9_turns_61 (by decide) hf (fun hf => ?_) (fun hf => ?_)
    · refine r_bipush C 8 dX9_turns_81 (by decide) ?_
      refine r_istore (lv' := [(4, .int 8), (0, .ref a_this), (1, .int x1), (2, .int x2), (3, .int x3)]) C dX9_turns_83 (by decide) rfl ?_
      refine r_iconst C 0 dX9_turns_85 (by decide) ?_
      refine r_istore (lv' := [(5, .int 0), (4, .int 8), (0, .ref a_this), (1, .int x1), (2, .int x2), (3, .int x3)]) C dX9_turns_86 (by decide) rfl ?_
      refine r_iconst C 0 dX9_turns_88 (by decide) ?_
      refine r_istore (lv' := [(6, .int 0), (5, .int 0), (4, .int 8), (0, .ref a_this), (1, .int x1), (2, .int x2), (3, .int x3)]) C dX9_turns_89 (by decide) rfl ?_
      refine r_iconst C 0 dX9_turns_91 (by decide) ?_
      refine r_istore (lv' := [(7, .int 0), (6, .int 0), (5, .int 0), (4, .int 8), (0, .ref a_this), (1, .int x1), (2, .int x2), (3, .int x3)]) C dX9_turns_92 (by decide) rfl ?_
      exact ST_lv [4, 5, 6, 7, 3, 2, 1, 0] rfl (hb_94 5000 x1 x2 x3 8 0 0 0 v_this_st v_this_aside hf)
    · refine r_iload_n C dX9_turns_64 rfl 3 rfl ?_
      refine r_aload_n C dX9_turns_65 rfl 0 rfl ?_
      refine r_get C in_X9_turns_X9 0 rfl rfl 0 (by decide) lk_X9_turns_5 rfl rfl dX9_turns_66 ?_
      refine r_iconst C 0 dX9_turns_69 (by decide) ?_
      refine r_iald_k C 0 3 0 rfl rfl (kk_ 0 37 (by decide) (by decide)) dX9_turns_70 ?_
      refine r_iconst C 1 dX9_turns_71 (by decide) ?_
      refine r_iadd C dX9_turns_72 ?_
      refine r_imul C dX9_turns_73 ?_
      refine r_istore_n (lv' := [(3, .int (x3 * ((v_this_told 0) + 1))), (0, .ref a_this), (1, .int x1), (2, .int x2), (4, .int x4)]) C dX9_turns_74 rfl (by decide) rfl ?_
      refine r_iinc (v := 1) (k := 4) (lv' := [(4, .int (x4 + 1)), (3, .int (x3 * ((v_this_told 0) + 1))), (0, .ref a_this), (1, .int x1), (2, .int x2)]) C dX9_turns_75 rfl (by decide) (by decide) rfl ?_
      refine r_goto C 58 dX9_turns_78 (by decide) ?_
      exact ST_lv [2, 3, 4, 1, 0] rfl (hk_58 x1 x2 (x3 * ((v_this_told 0) + 1)) (x4 + 1) v_this_st v_this_aside hf)
  have hb_58 : ∀ (n : Nat) (x1 : Int32) (x2 : Int32) (x3 : Int32) (x4 : Int32) (v_this_st : Nat → Int32) (v_this_aside : Nat → Int32), f_X9_turns_b58 v_this_told n x1 x2 x3 x4 v_this_st v_this_aside = some res → Z (w_X9_turns cyI cyZ cyW a_this a_this_told a_this_st a_this_text v_this_letters v_this_place v_this_token v_this_value v_this_begins a_this_read v_this_clauses a_this_ahead v_this_undoMany a_this_isKept a_this_kept v_this_fewestMany v_this_fewestSets v_this_fewestSet v_this_fewestMost a_this_aside a_this_seens v_this_seenMany v_this_st v_this_aside v_this_told) 58 [(0, .ref a_this), (1, .int x1), (2, .int x2), (3, .int x3), (4, .int x4)] [] := by
    intro  n
    induction n with
    | zero => intro x1 x2 x3 x4 v_this_st v_this_aside hf; exact nn_ hf
    | succ n ih => exact fun x1 x2 x3 x4 v_this_st v_this_aside hf => hs_58 _ ih x1 x2 x3 x4 v_this_st v_this_aside hf
  have hs_29 : ∀ (k_29 : Int32 → Int32 → Int32 → (Nat → Int32) → (Nat → Int32) → Option (Int32 × (Nat → Int32) × (Nat → Int32))), (∀ (x1 : Int32) (x2 : Int32) (x3 : Int32) (v_this_st : Nat → Int32) (v_this_aside : Nat → Int32), k_29 x1 x2 x3 v_this_st v_this_aside = some res → Z (w_X9_turns cyI cyZ cyW a_this a_this_told a_this_st a_this_text v_this_letters v_this_place v_this_token v_this_value v_this_begins a_this_read v_this_clauses a_this_ahead v_this_undoMany a_this_isKept a_this_kept v_this_fewestMany v_this_fewestSets v_this_fewestSet v_this_fewestMost a_this_aside a_this_seens v_this_seenMany v_this_st v_this_aside v_this_told) 29 [(0, .ref a_this), (1, .int x1), (2, .int x2), (3, .int x3)] []) → ∀ (x1 : Int32) (x2 : Int32) (x3 : Int32) (v_this_st : Nat → Int32) (v_this_aside : Nat → Int32), f_X9_turns_s29 v_this_told k_29 x1 x2 x3 v_this_st v_this_aside = some res → Z (w_X9_turns cyI cyZ cyW a_this a_this_told a_this_st a_this_text v_this_letters v_this_place v_this_token v_this_value v_this_begins a_this_read v_this_clauses a_this_ahead v_this_undoMany a_this_isKept a_this_kept v_this_fewestMany v_this_fewestSets v_this_fewestSet v_this_fewestMost a_this_aside a_this_seens v_this_seenMany v_this_st v_this_aside v_this_told) 29 [(0, .ref a_this), (1, .int x1), (2, .int x2), (3, .int x3)] [] := by
    subst hZ
    intro k_29 hk_29 x1 x2 x3 v_this_st v_this_aside hf
    refine r_iload_n C dX9_turns_29 rfl 3 rfl ?_
    refine r_bipush C 15 dX9_turns_30 (by decide) ?_
    refine r_icmp_ge C 53 dX9_turns_32 (by decide) hf (fun hf => ?_) (fun hf => ?_)
    · refine r_iconst C 1 dX9_turns_53 (by decide) ?_
      refine r_istore_n (lv' := [(3, .int 1), (0, .ref a_this), (1, .int x1), (2, .int x2)]) C dX9_turns_54 rfl (by decide) rfl ?_
      refine r_iconst C 0 dX9_turns_55 (by decide) ?_
      refine r_istore (lv' := [(4, .int 0), (3, .int 1), (0, .ref a_this), (1, .int x1), (2, .int x2)]) C dX9_turns_56 (by decide) rfl ?_
      exact ST_lv [2, 3, 4, 1, 0] rfl (hb_58 5000 x1 x2 1 0 v_this_st v_this_aside hf)
    · refine r_aload_n C dX9_turns_35 rfl 0 rfl ?_
      refine r_get C in_X9_turns_X9 0 rfl rfl 18 (by decide) lk_X9_turns_3 rfl rfl dX9_turns_36 ?_
      refine r_iload_n C dX9_turns_39 rfl 3 rfl ?_
      refine r_aload_n C dX9_turns_40 rfl 0 rfl ?_
      refine r_get C in_X9_turns_X9 0 rfl rfl 1 (by decide) lk_X9_turns_4 rfl rfl dX9_turns_41 ?_
      refine r_iload_n C dX9_turns_44 rfl 3 rfl ?_
      obtain ⟨hi5, hf⟩ := gd_some hf
      refine r_iald C 1 0 rfl rfl hi5 dX9_turns_45 ?_
      obtain ⟨hi6, hf⟩ := gd_some hf
      refine r_iast (ws' := (w_X9_turns cyI cyZ cyW a_this a_this_told a_this_st a_this_text v_this_letters v_this_place v_this_token v_this_value v_this_begins a_this_read v_this_clauses a_this_ahead v_this_undoMany a_this_isKept a_this_kept v_this_fewestMany v_this_fewestSets v_this_fewestSet v_this_fewestMost a_this_aside a_this_seens v_this_seenMany v_this_st (upd v_this_aside (Int32.toNatClampNeg x3) (v_this_st (Int32.toNatClampNeg x3))) v_this_told)) C 2 0 rfl rfl hi6 rfl dX9_turns_46 ?_
      refine r_iinc (v := 1) (k := 3) (lv' := [(3, .int (x3 + 1)), (0, .ref a_this), (1, .int x1), (2, .int x2)]) C dX9_turns_47 rfl (by decide) (by decide) rfl ?_
      refine r_goto C 29 dX9_turns_50 (by decide) ?_
      exact ST_lv [1, 2, 3, 0] rfl (hk_29 x1 x2 (x3 + 1) v_this_st (upd v_this_aside (Int32.toNatClampNeg x3) (v_this_st (Int32.toNatClampNeg x3))) hf)
  have hb_29 : ∀ (n : Nat) (x1 : Int32) (x2 : Int32) (x3 : Int32) (v_this_st : Nat → Int32) (v_this_aside : Nat → Int32), f_X9_turns_b29 v_this_told n x1 x2 x3 v_this_st v_this_aside = some res → Z (w_X9_turns cyI cyZ cyW a_this a_this_told a_this_st a_this_text v_this_letters v_this_place v_this_token v_this_value v_this_begins a_this_read v_this_clauses a_this_ahead v_this_undoMany a_this_isKept a_this_kept v_this_fewestMany v_this_fewestSets v_this_fewestSet v_this_fewestMost a_this_aside a_this_seens v_this_seenMany v_this_st v_this_aside v_this_told) 29 [(0, .ref a_this), (1, .int x1), (2, .int x2), (3, .int x3)] [] := by
    intro  n
    induction n with
    | zero => intro x1 x2 x3 v_this_st v_this_aside hf; exact nn_ hf
    | succ n ih => exact fun x1 x2 x3 v_this_st v_this_aside hf => hs_29 _ ih x1 x2 x3 v_this_st v_this_aside hf
  subst hZ
  refine r_iload_n C dX9_turns_0 rfl 1 rfl ?_
  refine r_i2l C dX9_turns_1 ?_
  refine r_lconst C 0 dX9_turns_2 (by decide) ?_
  refine r_ldc2 C lk_X9_turns_1 dX9_turns_3 ?_
  obtain ⟨y1, hy2, hf⟩ := bd_some hf
  refine r_roS_i (As := [.long (Int32.toInt64 x1), .long 0, .long 4]) (rest := []) C (c_X9_in l D cyI cyZ cyW (Int32.toInt64 x1) 0 4 y1 hy2) gX9_turns_X9_in rfl hyS_X9_in ⟨rfl, rfl, (Nat.le_of_ble_eq_true rfl), (Nat.le_of_ble_eq_true rfl)⟩ rfl [] rfl rfl rfl (Nat.le_of_ble_eq_true rfl) ⟨Nat.zero_le _, Nat.zero_le _⟩ dX9_turns_6 ?_
  refine r_if_eq C 24 dX9_turns_9 (by decide) hf (fun hf => ?_) (fun hf => ?_)
  · refine r_bipush C (-3) dX9_turns_24 (by decide) ?_
    rw [← Option.some.inj hf]
    exact r_iret C hr hlk dX9_turns_26
  · refine r_iload_n C dX9_turns_12 rfl 2 rfl ?_
    refine r_i2l C dX9_turns_13 ?_
    refine r_lconst C 0 dX9_turns_14 (by decide) ?_
    refine r_ldc2 C lk_X9_turns_2 dX9_turns_15 ?_
    obtain ⟨y3, hy4, hf⟩ := bd_some hf
    refine r_roS_i (As := [.long (Int32.toInt64 x2), .long 0, .long 5]) (rest := []) C (c_X9_in l D cyI cyZ cyW (Int32.toInt64 x2) 0 5 y3 hy4) gX9_turns_X9_in rfl hyS_X9_in ⟨rfl, rfl, (Nat.le_of_ble_eq_true rfl), (Nat.le_of_ble_eq_true rfl)⟩ rfl [] rfl rfl rfl (Nat.le_of_ble_eq_true rfl) ⟨Nat.zero_le _, Nat.zero_le _⟩ dX9_turns_18 ?_
    refine r_if_ne C 27 dX9_turns_21 (by decide) hf (fun hf => ?_) (fun hf => ?_)
    · refine r_iconst C 0 dX9_turns_27 (by decide) ?_
      refine r_istore_n (lv' := [(3, .int 0), (0, .ref a_this), (1, .int x1), (2, .int x2)]) C dX9_turns_28 rfl (by decide) rfl ?_
      exact ST_lv [1, 2, 3, 0] rfl (hb_29 5000 x1 x2 0 v_this_st v_this_aside hf)
    · refine r_bipush C (-3) dX9_turns_24 (by decide) ?_
      rw [← Option.some.inj hf]
      exact r_iret C hr hlk dX9_turns_26

theorem lk_X9_seen_1 : Cond.fieldLink RX9 111 "ParishCoatModel" "seenMany" "I" ∈ wsX9_seen := List.mem_of_getElem? (i := 1) rfl
theorem lk_X9_seen_2 : Cond.fieldLink RX9 35 "ParishCoatModel" "seens" "[I" ∈ wsX9_seen := List.mem_of_getElem? (i := 2) rfl
theorem in_X9_seen_X9 : ∀ w ∈ u_ws RX9 TX9 21, w ∈ wsX9_seen := fun _ h => List.mem_cons_of_mem _ (List.mem_append_right _ h)
def f_X9_seen (v_this_seenMany : Int32) (v_this_told : Nat → Int32) (v_this_seens : Nat → Int32) (x1 : Int32) (x2 : Int32) (x3 : Int32) : Option (Int32 × Int32 × (Nat → Int32)) := (f_X9_areFamilies v_this_told x1).bind fun y1 => if y1 = 0 then (some ((-2), v_this_seenMany, v_this_seens)) else ((f_X9_in (Int32.toInt64 x2) 0 1).bind fun y3 => if y3 = 0 then (some ((-3), v_this_seenMany, v_this_seens)) else ((f_X9_in (Int32.toInt64 x3) 0 1).bind fun y5 => if y5 = 0 then (some ((-3), v_this_seenMany, v_this_seens)) else (if v_this_seenMany = 6 then (some ((-5), v_this_seenMany, v_this_seens)) else (gd_ (3 * v_this_seenMany) 18 (gd_ ((3 * v_this_seenMany) + 1) 18 (gd_ ((3 * v_this_seenMany) + 2) 18 (some ((v_this_seenMany + 1), (v_this_seenMany + 1), (upd (upd (upd v_this_seens (Int32.toNatClampNeg (3 * v_this_seenMany)) x1) (Int32.toNatClampNeg ((3 * v_this_seenMany) + 1)) x2) (Int32.toNatClampNeg ((3 * v_this_seenMany) + 2)) x3)))))))))
def w_X9_seen (cyI cyZ cyW : ClassId) (a_this : Nat) (a_this_told : Nat) (a_this_st : Nat) (a_this_text : Nat) (v_this_letters : Int32) (v_this_place : Int32) (v_this_token : Int32) (v_this_value : Int32) (v_this_begins : Int32) (a_this_read : Nat) (v_this_clauses : Int32) (a_this_ahead : Nat) (v_this_undoMany : Int32) (a_this_isKept : Nat) (a_this_kept : Nat) (v_this_fewestMany : Int32) (v_this_fewestSets : Int32) (v_this_fewestSet : Int32) (v_this_fewestMost : Int32) (a_this_aside : Nat) (a_this_seens : Nat) (v_this_seenMany : Int32) (v_this_told : Nat → Int32) (v_this_seens : Nat → Int32) : va_W := [(a_this, .inr (9, [.ref a_this_told, .ref a_this_st, .ref a_this_text, .int v_this_letters, .int v_this_place, .int v_this_token, .int v_this_value, .int v_this_begins, .ref a_this_read, .int v_this_clauses, .ref a_this_ahead, .int v_this_undoMany, .ref a_this_isKept, .ref a_this_kept, .int v_this_fewestMany, .int v_this_fewestSets, .int v_this_fewestSet, .int v_this_fewestMost, .ref a_this_aside, .ref a_this_seens, .int v_this_seenMany])), (a_this_told, .inl (cyI, 37, .inl v_this_told)), (a_this_seens, .inl (cyI, 18, .inl v_this_seens))]
set_option maxHeartbeats 4000000 in
set_option maxRecDepth 100000 in
theorem c_X9_seen (l : Launch) (D : va_G) (cyI cyZ cyW : ClassId) (a_this : Nat) (a_this_told : Nat) (a_this_st : Nat) (a_this_text : Nat) (v_this_letters : Int32) (v_this_place : Int32) (v_this_token : Int32) (v_this_value : Int32) (v_this_begins : Int32) (a_this_read : Nat) (v_this_clauses : Int32) (a_this_ahead : Nat) (v_this_undoMany : Int32) (a_this_isKept : Nat) (a_this_kept : Nat) (v_this_fewestMany : Int32) (v_this_fewestSets : Int32) (v_this_fewestSet : Int32) (v_this_fewestMost : Int32) (a_this_aside : Nat) (a_this_seens : Nat) (v_this_seenMany : Int32) (v_this_told : Nat → Int32) (v_this_seens : Nat → Int32) (x1 : Int32) (x2 : Int32) (x3 : Int32) (res : Int32 × Int32 × (Nat → Int32)) (hf : f_X9_seen v_this_seenMany v_this_told v_this_seens x1 x2 x3 = some res) : ∀ sz, Met l yX9_seen wsX9_seen { frames := 2, cells := 0, slots := 0, locals := 46 } (PCx D (tyG cyI cyZ cyW) [.ref a_this, .int x1, .int x2, .int x3] (w_X9_seen cyI cyZ cyW a_this a_this_told a_this_st a_this_text v_this_letters v_this_place v_this_token v_this_value v_this_begins a_this_read v_this_clauses a_this_ahead v_this_undoMany a_this_isKept a_this_kept v_this_fewestMany v_this_fewestSets v_this_fewestSet v_this_fewestMost a_this_aside a_this_seens v_this_seenMany v_this_told v_this_seens) sz) (QI D (tyG cyI cyZ cyW) (w_X9_seen cyI cyZ cyW a_this a_this_told a_this_st a_this_text v_this_letters v_this_place v_this_token v_this_value v_this_begins a_this_read v_this_clauses a_this_ahead v_this_undoMany a_this_isKept a_this_kept v_this_fewestMany v_this_fewestSets v_this_fewestSet v_this_fewestMost a_this_aside a_this_seens v_this_seenMany v_this_told v_this_seens) sz res.1 (w_X9_seen cyI cyZ cyW a_this a_this_told a_this_st a_this_text v_this_letters v_this_place v_this_token v_this_value v_this_begins a_this_read v_this_clauses a_this_ahead v_this_undoMany a_this_isKept a_this_kept v_this_fewestMany v_this_fewestSets v_this_fewestSet v_this_fewestMost a_this_aside a_this_seens res.2.1 v_this_told res.2.2)) 0 0 (va_A (w_X9_seen cyI cyZ cyW a_this a_this_told a_this_st a_this_text v_this_letters v_this_place v_this_token v_this_value v_this_begins a_this_read v_this_clauses a_this_ahead v_this_undoMany a_this_isKept a_this_kept v_this_fewestMany v_this_fewestSets v_this_fewestSet v_this_fewestMost a_this_aside a_this_seens v_this_seenMany v_this_told v_this_seens) sz) := by
  intro sz
  refine met_of (cc := cX9_seen) (maxL := 4) (ret := (some .int)) (lv0 := [(0, .ref a_this), (1, .int x1), (2, .int x2), (3, .int x3)]) (by decide) rfl ⟨(Nat.le_of_ble_eq_true rfl), rfl⟩ ?_
  intro p e s m below meth c C hr hlk hnm hsz
  subst hsz
  have C : CX p s m _ c 4 cX9_seen RX9 wsX9_seen D (tyG cyI cyZ cyW) _ := C
  refine r_aload_n C dX9_seen_0 rfl 0 rfl ?_
  refine r_iload_n C dX9_seen_1 rfl 1 rfl ?_
  obtain ⟨y1, hy2, hf⟩ := bd_some hf
  refine r_roV_i (As := [.int x1]) (rest := []) C (c_X9_areFamilies l D cyI cyZ cyW a_this a_this_told a_this_st a_this_text v_this_letters v_this_place v_this_token v_this_value v_this_begins a_this_read v_this_clauses a_this_ahead v_this_undoMany a_this_isKept a_this_kept v_this_fewestMany v_this_fewestSets v_this_fewestSet v_this_fewestMost a_this_aside a_this_seens v_this_seenMany v_this_told x1 y1 hy2) gX9_seen_X9_areFamilies rfl hyV_X9_areFamilies ⟨rfl, rfl, (Nat.le_of_ble_eq_true rfl), (Nat.le_of_ble_eq_true rfl)⟩ rfl 0 rfl rfl [0, 1] rfl rfl rfl (Nat.le_of_ble_eq_true rfl) ⟨Nat.zero_le _, Nat.zero_le _⟩ dX9_seen_2 ?_
  refine r_if_ne C 11 dX9_seen_5 (by decide) hf (fun hf => ?_) (fun hf => ?_)
  · refine r_iload_n C dX9_seen_11 rfl 2 rfl ?_
    refine r_i2l C dX9_seen_12 ?_
    refine r_lconst C 0 dX9_seen_13 (by decide) ?_
    refine r_lconst C 1 dX9_seen_14 (by decide) ?_
    obtain ⟨y3, hy4, hf⟩ := bd_some hf
    refine r_roS_i (As := [.long (Int32.toInt64 x2), .long 0, .long 1]) (rest := []) C (c_X9_in l D cyI cyZ cyW (Int32.toInt64 x2) 0 1 y3 hy4) gX9_seen_X9_in rfl hyS_X9_in ⟨rfl, rfl, (Nat.le_of_ble_eq_true rfl), (Nat.le_of_ble_eq_true rfl)⟩ rfl [] rfl rfl rfl (Nat.le_of_ble_eq_true rfl) ⟨Nat.zero_le _, Nat.zero_le _⟩ dX9_seen_15 ?_
    refine r_if_eq C 31 dX9_seen_18 (by decide) hf (fun hf => ?_) (fun hf => ?_)
    · refine r_bipush C (-3) dX9_seen_31 (by decide) ?_
      rw [← Option.some.inj hf]
      exact r_iret C hr hlk dX9_seen_33
    · refine r_iload_n C dX9_seen_21 rfl 3 rfl ?_
      refine r_i2l C dX9_seen_22 ?_
      refine r_lconst C 0 dX9_seen_23 (by decide) ?_
      refine r_lconst C 1 dX9_seen_24 (by decide) ?_
      obtain ⟨y5, hy6, hf⟩ := bd_some hf
      refine r_roS_i (As := [.long (Int32.toInt64 x3), .long 0, .long 1]) (rest := []) C (c_X9_in l D cyI cyZ cyW (Int32.toInt64 x3) 0 1 y5 hy6) gX9_seen_X9_in rfl hyS_X9_in ⟨rfl, rfl, (Nat.le_of_ble_eq_true rfl), (Nat.le_of_ble_eq_true rfl)⟩ rfl [] rfl rfl rfl (Nat.le_of_ble_eq_true rfl) ⟨Nat.zero_le _, Nat.zero_le _⟩ dX9_seen_25 ?_
      refine r_if_ne C 34 dX9_seen_28 (by decide) hf (fun hf => ?_) (fun hf => ?_)
      · refine r_aload_n C dX9_seen_34 rfl 0 rfl ?_
        refine r_get C in_X9_seen_X9 0 rfl rfl 20 (by decide) lk_X9_seen_1 rfl rfl dX9_seen_35 ?_
        refine r_bipush C 6 dX9_seen_38 (by decide) ?_
        refine r_icmp_ne C 46 dX9_seen_40 (by decide) hf (fun hf => ?_) (fun hf => ?_)
        · refine r_aload_n C dX9_seen_46 rfl 0 rfl ?_
          refine r_get C in_X9_seen_X9 0 rfl rfl 19 (by decide) lk_X9_seen_2 rfl rfl dX9_seen_47 ?_
          refine r_iconst C 3 dX9_seen_50 (by decide) ?_
          refine r_aload_n C dX9_seen_51 rfl 0 rfl ?_
          refine r_get C in_X9_seen_X9 0 rfl rfl 20 (by decide) lk_X9_seen_1 rfl rfl dX9_seen_52 ?_
          refine r_imul C dX9_seen_55 ?_
          refine r_iload_n C dX9_seen_56 rfl 1 rfl ?_
          obtain ⟨hi7, hf⟩ := gd_some hf
          refine r_iast (ws' := (w_X9_seen cyI cyZ cyW a_this a_this_told a_this_st a_this_text v_this_letters v_this_place v_this_token v_this_value v_this_begins a_this_read v_this_clauses a_this_ahead v_this_undoMany a_this_isKept a_this_kept v_this_fewestMany v_this_fewestSets v_this_fewestSet v_this_fewestMost a_this_aside a_this_seens v_this_seenMany v_this_told (upd v_this_seens (Int32.toNatClampNeg (3 * v_this_seenMany)) x1))) C 2 0 rfl rfl hi7 rfl dX9_seen_57 ?_
          refine r_aload_n C dX9_seen_58 rfl 0 rfl ?_
          refine r_get C in_X9_seen_X9 0 rfl rfl 19 (by decide) lk_X9_seen_2 rfl rfl dX9_seen_59 ?_
          refine r_iconst C 3 dX9_seen_62 (by decide) ?_
          refine r_aload_n C dX9_seen_63 rfl 0 rfl ?_
          refine r_get C in_X9_seen_X9 0 rfl rfl 20 (by decide) lk_X9_seen_1 rfl rfl dX9_seen_64 ?_
          refine r_imul C dX9_seen_67 ?_
          refine r_iconst C 1 dX9_seen_68 (by decide) ?_
          refine r_iadd C dX9_seen_69 ?_
          refine r_iload_n C dX9_seen_70 rfl 2 rfl ?_
          obtain ⟨hi8, hf⟩ := gd_some hf
          refine r_iast (ws' := (w_X9_seen cyI cyZ cyW a_this a_this_told a_this_st a_this_text v_this_letters v_this_place v_this_token v_this_value v_this_begins a_this_read v_this_clauses a_this_ahead v_this_undoMany a_this_isKept a_this_kept v_this_fewestMany v_this_fewestSets v_this_fewestSet v_this_fewestMost a_this_aside a_this_seens v_this_seenMany v_this_told (upd (upd v_this_seens (Int32.toNatClampNeg (3 * v_this_seenMany)) x1) (Int32.toNatClampNeg ((3 * v_this_seenMany) + 1)) x2))) C 2 0 rfl rfl hi8 rfl dX9_seen_71 ?_
          refine r_aload_n C dX9_seen_72 rfl 0 rfl ?_
          refine r_get C in_X9_seen_X9 0 rfl rfl 19 (by decide) lk_X9_seen_2 rfl rfl dX9_seen_73 ?_
          refine r_iconst C 3 dX9_seen_76 (by decide) ?_
          refine r_aload_n C dX9_seen_77 rfl 0 rfl ?_
          refine r_get C in_X9_seen_X9 0 rfl rfl 20 (by decide) lk_X9_seen_1 rfl rfl dX9_seen_78 ?_
          refine r_imul C dX9_seen_81 ?_
          refine r_iconst C 2 dX9_seen_82 (by decide) ?_
          refine r_iadd C dX9_seen_83 ?_
          refine r_iload_n C dX9_seen_84 rfl 3 rfl ?_
          obtain ⟨hi9, hf⟩ := gd_some hf
          refine r_iast (ws' := (w_X9_seen cyI cyZ cyW a_this a_this_told a_this_st a_this_text v_this_letters v_this_place v_this_token v_this_value v_this_begins a_this_read v_this_clauses a_this_ahead v_this_undoMany a_this_isKept a_this_kept v_this_fewestMany v_this_fewestSets v_this_fewestSet v_this_fewestMost a_this_aside a_this_seens v_this_seenMany v_this_told (upd (upd (upd v_this_seens (Int32.toNatClampNeg (3 * v_this_seenMany)) x1) (Int32.toNatClampNeg ((3 * v_this_seenMany) + 1)) x2) (Int32.toNatClampNeg ((3 * v_this_seenMany) + 2)) x3))) C 2 0 rfl rfl hi9 rfl dX9_seen_85 ?_
          refine r_aload_n C dX9_seen_86 rfl 0 rfl ?_
          refine r_dup C dX9_seen_87 rfl ?_
          refine r_get C in_X9_seen_X9 0 rfl rfl 20 (by decide) lk_X9_seen_1 rfl rfl dX9_seen_88 ?_
          refine r_iconst C 1 dX9_seen_91 (by decide) ?_
          refine r_iadd C dX9_seen_92 ?_
          refine r_put (ws' := (w_X9_seen cyI cyZ cyW a_this a_this_told a_this_st a_this_text v_this_letters v_this_place v_this_token v_this_value v_this_begins a_this_read v_this_clauses a_this_ahead v_this_undoMany a_this_isKept a_this_kept v_this_fewestMany v_this_fewestSets v_this_fewestSet v_this_fewestMost a_this_aside a_this_seens (v_this_seenMany + 1) v_this_told (upd (upd (upd v_this_seens (Int32.toNatClampNeg (3 * v_this_seenMany)) x1) (Int32.toNatClampNeg ((3 * v_this_seenMany) + 1)) x2) (Int32.toNatClampNeg ((3 * v_this_seenMany) + 2)) x3))) C in_X9_seen_X9 tyX9 tyX9_ok nmX9 0 rfl rfl 20 (by decide) lk_X9_seen_1 rfl rfl rfl rfl (Nat.le_of_ble_eq_true rfl) rfl dX9_seen_93 ?_
          refine r_aload_n C dX9_seen_96 rfl 0 rfl ?_
          refine r_get C in_X9_seen_X9 0 rfl rfl 20 (by decide) lk_X9_seen_1 rfl rfl dX9_seen_97 ?_
          rw [← Option.some.inj hf]
          exact r_iret C hr hlk dX9_seen_100
        · refine r_bipush C (-5) dX9_seen_43 (by decide) ?_
          rw [← Option.some.inj hf]
          exact r_iret C hr hlk dX9_seen_45
      · refine r_bipush C (-3) dX9_seen_31 (by decide) ?_
        rw [← Option.some.inj hf]
        exact r_iret C hr hlk dX9_seen_33
  · refine r_bipush C (-2) dX9_seen_8 (by decide) ?_
    rw [← Option.some.inj hf]
    exact r_iret C hr hlk dX9_seen_10

theorem lk_X9_forget_1 : Cond.fieldLink RX9 111 "ParishCoatModel" "seenMany" "I" ∈ wsX9_forget := List.mem_of_getElem? (i := 1) rfl
theorem in_X9_forget_X9 : ∀ w ∈ u_ws RX9 TX9 21, w ∈ wsX9_forget := fun _ h => List.mem_cons_of_mem _ (List.mem_append_right _ h)
def f_X9_forget (v_this_seenMany : Int32) : Option (Int32 × Int32) := some (v_this_seenMany, 0)
def w_X9_forget (cyI cyZ cyW : ClassId) (a_this : Nat) (a_this_told : Nat) (a_this_st : Nat) (a_this_text : Nat) (v_this_letters : Int32) (v_this_place : Int32) (v_this_token : Int32) (v_this_value : Int32) (v_this_begins : Int32) (a_this_read : Nat) (v_this_clauses : Int32) (a_this_ahead : Nat) (v_this_undoMany : Int32) (a_this_isKept : Nat) (a_this_kept : Nat) (v_this_fewestMany : Int32) (v_this_fewestSets : Int32) (v_this_fewestSet : Int32) (v_this_fewestMost : Int32) (a_this_aside : Nat) (a_this_seens : Nat) (v_this_seenMany : Int32) : va_W := [(a_this, .inr (9, [.ref a_this_told, .ref a_this_st, .ref a_this_text, .int v_this_letters, .int v_this_place, .int v_this_token, .int v_this_value, .int v_this_begins, .ref a_this_read, .int v_this_clauses, .ref a_this_ahead, .int v_this_undoMany, .ref a_this_isKept, .ref a_this_kept, .int v_this_fewestMany, .int v_this_fewestSets, .int v_this_fewestSet, .int v_this_fewestMost, .ref a_this_aside, .ref a_this_seens, .int v_this_seenMany]))]
set_option maxHeartbeats 4000000 in
set_option maxRecDepth 100000 in
theorem c_X9_forget (l : Launch) (D : va_G) (cyI cyZ cyW : ClassId) (a_this : Nat) (a_this_told : Nat) (a_this_st : Nat) (a_this_text : Nat) (v_this_letters : Int32) (v_this_place : Int32) (v_this_token : Int32) (v_this_value : Int32) (v_this_begins : Int32) (a_this_read : Nat) (v_this_clauses : Int32) (a_this_ahead : Nat) (v_this_undoMany : Int32) (a_this_isKept : Nat) (a_this_kept : Nat) (v_this_fewestMany : Int32) (v_this_fewestSets : Int32) (v_this_fewestSet : Int32) (v_this_fewestMost : Int32) (a_this_aside : Nat) (a_this_seens : Nat) (v_this_seenMany : Int32) (res : Int32 × Int32) (hf : f_X9_forget v_this_seenMany = some res) : ∀ sz, Met l yX9_forget wsX9_forget { frames := 0, cells := 0, slots := 0, locals := 0 } (PCx D (tyG cyI cyZ cyW) [.ref a_this] (w_X9_forget cyI cyZ cyW a_this a_this_told a_this_st a_this_text v_this_letters v_this_place v_this_token v_this_value v_this_begins a_this_read v_this_clauses a_this_ahead v_this_undoMany a_this_isKept a_this_kept v_this_fewestMany v_this_fewestSets v_this_fewestSet v_this_fewestMost a_this_aside a_this_seens v_this_seenMany) sz) (QI D (tyG cyI cyZ cyW) (w_X9_forget cyI cyZ cyW a_this a_this_told a_this_st a_this_text v_this_letters v_this_place v_this_token v_this_value v_this_begins a_this_read v_this_clauses a_this_ahead v_this_undoMany a_this_isKept a_this_kept v_this_fewestMany v_this_fewestSets v_this_fewestSet v_this_fewestMost a_this_aside a_this_seens v_this_seenMany) sz res.1 (w_X9_forget cyI cyZ cyW a_this a_this_told a_this_st a_this_text v_this_letters v_this_place v_this_token v_this_value v_this_begins a_this_read v_this_clauses a_this_ahead v_this_undoMany a_this_isKept a_this_kept v_this_fewestMany v_this_fewestSets v_this_fewestSet v_this_fewestMost a_this_aside a_this_seens res.2)) 0 0 (va_A (w_X9_forget cyI cyZ cyW a_this a_this_told a_this_st a_this_text v_this_letters v_this_place v_this_token v_this_value v_this_begins a_this_read v_this_clauses a_this_ahead v_this_undoMany a_this_isKept a_this_kept v_this_fewestMany v_this_fewestSets v_this_fewestSet v_this_fewestMost a_this_aside a_this_seens v_this_seenMany) sz) := by
  intro sz
  refine met_of (cc := cX9_forget) (maxL := 2) (ret := (some .int)) (lv0 := [(0, .ref a_this)]) (by decide) rfl ⟨(Nat.le_of_ble_eq_true rfl), rfl⟩ ?_
  intro p e s m below meth c C hr hlk hnm hsz
  subst hsz
  have C : CX p s m _ c 2 cX9_forget RX9 wsX9_forget D (tyG cyI cyZ cyW) _ := C
  refine r_aload_n C dX9_forget_0 rfl 0 rfl ?_
  refine r_get C in_X9_forget_X9 0 rfl rfl 20 (by decide) lk_X9_forget_1 rfl rfl dX9_forget_1 ?_
  refine r_istore_n (lv' := [(1, .int v_this_seenMany), (0, .ref a_this)]) C dX9_forget_4 rfl (by decide) rfl ?_
  refine r_aload_n C dX9_forget_5 rfl 1 rfl ?_
  refine r_iconst C 0 dX9_forget_6 (by decide) ?_
  refine r_put (ws' := (w_X9_forget cyI cyZ cyW a_this a_this_told a_this_st a_this_text v_this_letters v_this_place v_this_token v_this_value v_this_begins a_this_read v_this_clauses a_this_ahead v_this_undoMany a_this_isKept a_this_kept v_this_fewestMany v_this_fewestSets v_this_fewestSet v_this_fewestMost a_this_aside a_this_seens 0)) C in_X9_forget_X9 tyX9 tyX9_ok nmX9 0 rfl rfl 20 (by decide) lk_X9_forget_1 rfl rfl rfl rfl (Nat.le_of_ble_eq_true rfl) rfl dX9_forget_7 ?_
  refine r_iload_n C dX9_forget_10 rfl 0 rfl ?_
  rw [← Option.some.inj hf]
  exact r_iret C hr hlk dX9_forget_11

theorem lk_X9_quotas_1 : Cond.fieldLink RX9 111 "ParishCoatModel" "seenMany" "I" ∈ wsX9_quotas := List.mem_of_getElem? (i := 1) rfl
theorem lk_X9_quotas_2 : Cond.fieldLink RX9 35 "ParishCoatModel" "seens" "[I" ∈ wsX9_quotas := List.mem_of_getElem? (i := 2) rfl
theorem in_X9_quotas_X9 : ∀ w ∈ u_ws RX9 TX9 21, w ∈ wsX9_quotas := fun _ h => List.mem_cons_of_mem _ (List.mem_append_right _ h)
def f_X9_quotas_b121 (v_this_seenMany : Int32) (v_this_seens : Nat → Int32) (v_this_told : Nat → Int32) (k_4 : Int32 → Int32 → Option (Int32)) (x2 : Int32) (s0 : Int32) (s1 : Int32) : Option (Int32) := k_4 (s1 ||| s0) (x2 + 1)
def f_X9_quotas_b102 (v_this_seenMany : Int32) (v_this_seens : Nat → Int32) (v_this_told : Nat → Int32) (k_4 : Int32 → Int32 → Option (Int32)) (k_15 : Int32 → Int32 → Int32 → Int32 → Option (Int32)) (x1 : Int32) (x2 : Int32) (x4 : Int32) (s0 : Int32) : Option (Int32) := k_15 x1 x2 s0 (x4 + 1)
def f_X9_quotas_b101 (v_this_seenMany : Int32) (v_this_seens : Nat → Int32) (v_this_told : Nat → Int32) (k_4 : Int32 → Int32 → Option (Int32)) (k_15 : Int32 → Int32 → Int32 → Int32 → Option (Int32)) (x1 : Int32) (x2 : Int32) (x4 : Int32) : Option (Int32) := f_X9_quotas_b102 v_this_seenMany v_this_seens v_this_told k_4 k_15 x1 x2 x4 0
def f_X9_quotas_b94 (v_this_seenMany : Int32) (v_this_seens : Nat → Int32) (v_this_told : Nat → Int32) (k_4 : Int32 → Int32 → Option (Int32)) (k_15 : Int32 → Int32 → Int32 → Int32 → Option (Int32)) (x1 : Int32) (x2 : Int32) (x4 : Int32) (s0 : Int32) (s1 : Int32) : Option (Int32) := if s1 = s0 then (f_X9_quotas_b102 v_this_seenMany v_this_seens v_this_told k_4 k_15 x1 x2 x4 1) else (f_X9_quotas_b101 v_this_seenMany v_this_seens v_this_told k_4 k_15 x1 x2 x4)
def f_X9_quotas_b66 (v_this_seenMany : Int32) (v_this_seens : Nat → Int32) (v_this_told : Nat → Int32) (k_4 : Int32 → Int32 → Option (Int32)) (k_15 : Int32 → Int32 → Int32 → Int32 → Option (Int32)) (x1 : Int32) (x2 : Int32) (x3 : Int32) (x4 : Int32) (s0 : Int32) : Option (Int32) := if x3 = 0 then (f_X9_quotas_b101 v_this_seenMany v_this_seens v_this_told k_4 k_15 x1 x2 x4) else (gd_ ((3 * x4) + 2) 18 (if (v_this_seens (Int32.toNatClampNeg ((3 * x4) + 2))) = 1 then (f_X9_quotas_b94 v_this_seenMany v_this_seens v_this_told k_4 k_15 x1 x2 x4 1 s0) else (f_X9_quotas_b94 v_this_seenMany v_this_seens v_this_told k_4 k_15 x1 x2 x4 0 s0)))
def f_X9_quotas_b54 (v_this_seenMany : Int32) (v_this_seens : Nat → Int32) (v_this_told : Nat → Int32) (k_4 : Int32 → Int32 → Option (Int32)) (k_15 : Int32 → Int32 → Int32 → Int32 → Option (Int32)) (x1 : Int32) (x2 : Int32) (x3 : Int32) (x4 : Int32) (s0 : Int32) (s1 : Int32) : Option (Int32) := (f_X9_weightsBy v_this_told s1 s0).bind fun y3 => if y3 < x2 then (f_X9_quotas_b66 v_this_seenMany v_this_seens v_this_told k_4 k_15 x1 x2 x3 x4 0) else (f_X9_quotas_b66 v_this_seenMany v_this_seens v_this_told k_4 k_15 x1 x2 x3 x4 1)
def f_X9_quotas_s15 (v_this_seenMany : Int32) (v_this_seens : Nat → Int32) (v_this_told : Nat → Int32) (k_4 : Int32 → Int32 → Option (Int32)) (k_15 : Int32 → Int32 → Int32 → Int32 → Option (Int32)) (x1 : Int32) (x2 : Int32) (x3 : Int32) (x4 : Int32) : Option (Int32) := if v_this_seenMany ≤ x4 then (if x3 = 0 then (f_X9_quotas_b121 v_this_seenMany v_this_seens v_this_told k_4 x2 0 x1) else (f_X9_quotas_b121 v_this_seenMany v_this_seens v_this_told k_4 x2 ((1 : Int32) <<< (x2 &&& 31)) x1)) else (gd_ (3 * x4) 18 (gd_ ((3 * x4) + 1) 18 (if (v_this_seens (Int32.toNatClampNeg ((3 * x4) + 1))) = 1 then (f_X9_quotas_b54 v_this_seenMany v_this_seens v_this_told k_4 k_15 x1 x2 x3 x4 1 (v_this_seens (Int32.toNatClampNeg (3 * x4)))) else (f_X9_quotas_b54 v_this_seenMany v_this_seens v_this_told k_4 k_15 x1 x2 x3 x4 0 (v_this_seens (Int32.toNatClampNeg (3 * x4)))))))
def f_X9_quotas_b15 (v_this_seenMany : Int32) (v_this_seens : Nat → Int32) (v_this_told : Nat → Int32) (k_4 : Int32 → Int32 → Option (Int32)) (n : Nat) : Int32 → Int32 → Int32 → Int32 → Option (Int32) := it_ (f_X9_quotas_s15 v_this_seenMany v_this_seens v_this_told k_4) (fun _ _ _ _ => none) n
def f_X9_quotas_s4 (v_this_seenMany : Int32) (v_this_seens : Nat → Int32) (v_this_told : Nat → Int32) (k_4 : Int32 → Int32 → Option (Int32)) (x1 : Int32) (x2 : Int32) : Option (Int32) := if 20 < x2 then (some (x1)) else (f_X9_quotas_b15 v_this_seenMany v_this_seens v_this_told k_4 5000 x1 x2 1 0)
def f_X9_quotas_b4 (v_this_seenMany : Int32) (v_this_seens : Nat → Int32) (v_this_told : Nat → Int32) (n : Nat) : Int32 → Int32 → Option (Int32) := it_ (f_X9_quotas_s4 v_this_seenMany v_this_seens v_this_told ) (fun _ _ => none) n
def f_X9_quotas (v_this_seenMany : Int32) (v_this_seens : Nat → Int32) (v_this_told : Nat → Int32) : Option (Int32) := f_X9_quotas_b4 v_this_seenMany v_this_seens v_this_told 5000 0 1
def w_X9_quotas (cyI cyZ cyW : ClassId) (a_this : Nat) (a_this_told : Nat) (a_this_st : Nat) (a_this_text : Nat) (v_this_letters : Int32) (v_this_place : Int32) (v_this_token : Int32) (v_this_value : Int32) (v_this_begins : Int32) (a_this_read : Nat) (v_this_clauses : Int32) (a_this_ahead : Nat) (v_this_undoMany : Int32) (a_this_isKept : Nat) (a_this_kept : Nat) (v_this_fewestMany : Int32) (v_this_fewestSets : Int32) (v_this_fewestSet : Int32) (v_this_fewestMost : Int32) (a_this_aside : Nat) (a_this_seens : Nat) (v_this_seenMany : Int32) (v_this_seens : Nat → Int32) (v_this_told : Nat → Int32) : va_W := [(a_this, .inr (9, [.ref a_this_told, .ref a_this_st, .ref a_this_text, .int v_this_letters, .int v_this_place, .int v_this_token, .int v_this_value, .int v_this_begins, .ref a_this_read, .int v_this_clauses, .ref a_this_ahead, .int v_this_undoMany, .ref a_this_isKept, .ref a_this_kept, .int v_this_fewestMany, .int v_this_fewestSets, .int v_this_fewestSet, .int v_this_fewestMost, .ref a_this_aside, .ref a_this_seens, .int v_this_seenMany])), (a_this_seens, .inl (cyI, 18, .inl v_this_seens)), (a_this_told, .inl (cyI, 37, .inl v_this_told))]
set_option maxHeartbeats 4000000 in
set_option maxRecDepth 100000 in
theorem c_X9_quotas (l : Launch) (D : va_G) (cyI cyZ cyW : ClassId) (a_this : Nat) (a_this_told : Nat) (a_this_st : Nat) (a_this_text : Nat) (v_this_letters : Int32) (v_this_place : Int32) (v_this_token : Int32) (v_this_value : Int32) (v_this_begins : Int32) (a_this_read : Nat) (v_this_clauses : Int32) (a_this_ahead : Nat) (v_this_undoMany : Int32) (a_this_isKept : Nat) (a_this_kept : Nat) (v_this_fewestMany : Int32) (v_this_fewestSets : Int32) (v_this_fewestSet : Int32) (v_this_fewestMost : Int32) (a_this_aside : Nat) (a_this_seens : Nat) (v_this_seenMany : Int32) (v_this_seens : Nat → Int32) (v_this_told : Nat → Int32) (res : Int32) (hf : f_X9_quotas v_this_seenMany v_this_seens v_this_told = some res) : ∀ sz, Met l yX9_quotas wsX9_quotas { frames := 2, cells := 0, slots := 0, locals := 47 } (PCx D (tyG cyI cyZ cyW) [.ref a_this] (w_X9_quotas cyI cyZ cyW a_this a_this_told a_this_st a_this_text v_this_letters v_this_place v_this_token v_this_value v_this_begins a_this_read v_this_clauses a_this_ahead v_this_undoMany a_this_isKept a_this_kept v_this_fewestMany v_this_fewestSets v_this_fewestSet v_this_fewestMost a_this_aside a_this_seens v_this_seenMany v_this_seens v_this_told) sz) (QI D (tyG cyI cyZ cyW) (w_X9_quotas cyI cyZ cyW a_this a_this_told a_this_st a_this_text v_this_letters v_this_place v_this_token v_this_value v_this_begins a_this_read v_this_clauses a_this_ahead v_this_undoMany a_this_isKept a_this_kept v_this_fewestMany v_this_fewestSets v_this_fewestSet v_this_fewestMost a_this_aside a_this_seens v_this_seenMany v_this_seens v_this_told) sz res (w_X9_quotas cyI cyZ cyW a_this a_this_told a_this_st a_this_text v_this_letters v_this_place v_this_token v_this_value v_this_begins a_this_read v_this_clauses a_this_ahead v_this_undoMany a_this_isKept a_this_kept v_this_fewestMany v_this_fewestSets v_this_fewestSet v_this_fewestMost a_this_aside a_this_seens v_this_seenMany v_this_seens v_this_told)) 0 0 (va_A (w_X9_quotas cyI cyZ cyW a_this a_this_told a_this_st a_this_text v_this_letters v_this_place v_this_token v_this_value v_this_begins a_this_read v_this_clauses a_this_ahead v_this_undoMany a_this_isKept a_this_kept v_this_fewestMany v_this_fewestSets v_this_fewestSet v_this_fewestMost a_this_aside a_this_seens v_this_seenMany v_this_seens v_this_told) sz) := by
  intro sz
  refine met_of (cc := cX9_quotas) (maxL := 6) (ret := (some .int)) (lv0 := [(0, .ref a_this)]) (by decide) rfl ⟨(Nat.le_of_ble_eq_true rfl), rfl⟩ ?_
  intro p e s m below meth c C hr hlk hnm hsz
  subst hsz
  have C : CX p s m _ c 6 cX9_quotas RX9 wsX9_quotas D (tyG cyI cyZ cyW) _ := C
  obtain ⟨Z, hZ⟩ : ∃ Z : va_W → Nat → LV → List Value → Prop, Z = ST p l e { frames := 2, cells := 0, slots := 0, locals := 47 } s m [.ref a_this].toArray below meth c 6 D (va_A (w_X9_quotas cyI cyZ cyW a_this a_this_told a_this_st a_this_text v_this_letters v_this_place v_this_token v_this_value v_this_begins a_this_read v_this_clauses a_this_ahead v_this_undoMany a_this_isKept a_this_kept v_this_fewestMany v_this_fewestSets v_this_fewestSet v_this_fewestMost a_this_aside a_this_seens v_this_seenMany v_this_seens v_this_told) s.heap.size) (MQ below (QI D (tyG cyI cyZ cyW) (w_X9_quotas cyI cyZ cyW a_this a_this_told a_this_st a_this_text v_this_letters v_this_place v_this_token v_this_value v_this_begins a_this_read v_this_clauses a_this_ahead v_this_undoMany a_this_isKept a_this_kept v_this_fewestMany v_this_fewestSets v_this_fewestSet v_this_fewestMost a_this_aside a_this_seens v_this_seenMany v_this_seens v_this_told) s.heap.size res (w_X9_quotas cyI cyZ cyW a_this a_this_told a_this_st a_this_text v_this_letters v_this_place v_this_token v_this_value v_this_begins a_this_read v_this_clauses a_this_ahead v_this_undoMany a_this_isKept a_this_kept v_this_fewestMany v_this_fewestSets v_this_fewestSet v_this_fewestMost a_this_aside a_this_seens v_this_seenMany v_this_seens v_this_told)) [.ref a_this].toArray s 0 0 (va_A (w_X9_quotas cyI cyZ cyW a_this a_this_told a_this_st a_this_text v_this_letters v_this_place v_this_token v_this_value v_this_begins a_this_read v_this_clauses a_this_ahead v_this_undoMany a_this_isKept a_this_kept v_this_fewestMany v_this_fewestSets v_this_fewestSet v_this_fewestMost a_this_aside a_this_seens v_this_seenMany v_this_seens v_this_told) s.heap.size)) 0 0 := ⟨_, rfl⟩
  have hb_121 : ∀ (k_4 : Int32 → Int32 → Option (Int32)), (∀ (x1 : Int32) (x2 : Int32), k_4 x1 x2 = some res → Z (w_X9_quotas cyI cyZ cyW a_this a_this_told a_this_st a_this_text v_this_letters v_this_place v_this_token v_this_value v_this_begins a_this_read v_this_clauses a_this_ahead v_this_undoMany a_this_isKept a_this_kept v_this_fewestMany v_this_fewestSets v_this_fewestSet v_this_fewestMost a_this_aside a_this_seens v_this_seenMany v_this_seens v_this_told) 4 [(0, .ref a_this), (1, .int x1), (2, .int x2)] []) → ∀ (x2 : Int32) (s0 : Int32) (s1 : Int32), f_X9_quotas_b121 v_this_seenMany v_this_seens v_this_told k_4 x2 s0 s1 = some res → Z (w_X9_quotas cyI cyZ cyW a_this a_this_told a_this_st a_this_text v_this_letters v_this_place v_this_token v_this_value v_this_begins a_this_read v_this_clauses a_this_ahead v_this_undoMany a_this_isKept a_this_kept v_this_fewestMany v_this_fewestSets v_this_fewestSet v_this_fewestMost a_this_aside a_this_seens v_this_seenMany v_this_seens v_this_told) 121 [(0, .ref a_this), (2, .int x2)] [.int s0, .int s1] := by
    subst hZ
    intro k_4 hk_4 x2 s0 s1 hf
    refine r_ior C dX9_quotas_121 ?_
    refine r_istore_n (lv' := [(1, .int (s1 ||| s0)), (0, .ref a_this), (2, .int x2)]) C dX9_quotas_122 rfl (by decide) rfl ?_
    refine r_iinc (v := 1) (k := 2) (lv' := [(2, .int (x2 + 1)), (1, .int (s1 ||| s0)), (0, .ref a_this)]) C dX9_quotas_123 rfl (by decide) (by decide) rfl ?_
    refine r_goto C 4 dX9_quotas_126 (by decide) ?_
    exact ST_lv [2, 1, 0] rfl (hk_4 (s1 ||| s0) (x2 + 1) hf)
  have hb_102 : ∀ (k_4 : Int32 → Int32 → Option (Int32)), (∀ (x1 : Int32) (x2 : Int32), k_4 x1 x2 = some res → Z (w_X9_quotas cyI cyZ cyW a_this a_this_told a_this_st a_this_text v_this_letters v_this_place v_this_token v_this_value v_this_begins a_this_read v_this_clauses a_this_ahead v_this_undoMany a_this_isKept a_this_kept v_this_fewestMany v_this_fewestSets v_this_fewestSet v_this_fewestMost a_this_aside a_this_seens v_this_seenMany v_this_seens v_this_told) 4 [(0, .ref a_this), (1, .int x1), (2, .int x2)] []) → ∀ (k_15 : Int32 → Int32 → Int32 → Int32 → Option (Int32)), (∀ (x1 : Int32) (x2 : Int32) (x3 : Int32) (x4 : Int32), k_15 x1 x2 x3 x4 = some res → Z (w_X9_quotas cyI cyZ cyW a_this a_this_told a_this_st a_this_text v_this_letters v_this_place v_this_token v_this_value v_this_begins a_this_read v_this_clauses a_this_ahead v_this_undoMany a_this_isKept a_this_kept v_this_fewestMany v_this_fewestSets v_this_fewestSet v_this_fewestMost a_this_aside a_this_seens v_this_seenMany v_this_seens v_this_told) 15 [(0, .ref a_this), (1, .int x1), (2, .int x2), (3, .int x3), (4, .int x4)] []) → ∀ (x1 : Int32) (x2 : Int32) (x4 : Int32) (s0 : Int32), f_X9_quotas_b102 v_this_seenMany v_this_seens v_this_told k_4 k_15 x1 x2 x4 s0 = some res → Z (w_X9_quotas cyI cyZ cyW a_this a_this_told a_this_st a_this_text v_this_letters v_this_place v_this_token v_this_value v_this_begins a_this_read v_this_clauses a_this_ahead v_this_undoMany a_this_isKept a_this_kept v_this_fewestMany v_this_fewestSets v_this_fewestSet v_this_fewestMost a_this_aside a_this_seens v_this_seenMany v_this_seens v_this_told) 102 [(0, .ref a_this), (1, .int x1), (2, .int x2), (4, .int x4)] [.int s0] := by
    subst hZ
    intro k_4 hk_4 k_15 hk_15 x1 x2 x4 s0 hf
    refine r_istore_n (lv' := [(3, .int s0), (0, .ref a_this), (1, .int x1), (2, .int x2), (4, .int x4)]) C dX9_quotas_102 rfl (by decide) rfl ?_
    refine r_iinc (v := 1) (k := 4) (lv' := [(4, .int (x4 + 1)), (3, .int s0), (0, .ref a_this), (1, .int x1), (2, .int x2)]) C dX9_quotas_103 rfl (by decide) (by decide) rfl ?_
    refine r_goto C 15 dX9_quotas_106 (by decide) ?_
    exact ST_lv [2, 3, 4, 1, 0] rfl (hk_15 x1 x2 s0 (x4 + 1) hf)
  have hb_101 : ∀ (k_4 : Int32 → Int32 → Option (Int32)), (∀ (x1 : Int32) (x2 : Int32), k_4 x1 x2 = some res → Z (w_X9_quotas cyI cyZ cyW a_this a_this_told a_this_st a_this_text v_this_letters v_this_place v_this_token v_this_value v_this_begins a_this_read v_this_clauses a_this_ahead v_this_undoMany a_this_isKept a_this_kept v_this_fewestMany v_this_fewestSets v_this_fewestSet v_this_fewestMost a_this_aside a_this_seens v_this_seenMany v_this_seens v_this_told) 4 [(0, .ref a_this), (1, .int x1), (2, .int x2)] []) → ∀ (k_15 : Int32 → Int32 → Int32 → Int32 → Option (Int32)), (∀ (x1 : Int32) (x2 : Int32) (x3 : Int32) (x4 : Int32), k_15 x1 x2 x3 x4 = some res → Z (w_X9_quotas cyI cyZ cyW a_this a_this_told a_this_st a_this_text v_this_letters v_this_place v_this_token v_this_value v_this_begins a_this_read v_this_clauses a_this_ahead v_this_undoMany a_this_isKept a_this_kept v_this_fewestMany v_this_fewestSets v_this_fewestSet v_this_fewestMost a_this_aside a_this_seens v_this_seenMany v_this_seens v_this_told) 15 [(0, .ref a_this), (1, .int x1), (2, .int x2), (3, .int x3), (4, .int x4)] []) → ∀ (x1 : Int32) (x2 : Int32) (x4 : Int32), f_X9_quotas_b101 v_this_seenMany v_this_seens v_this_told k_4 k_15 x1 x2 x4 = some res → Z (w_X9_quotas cyI cyZ cyW a_this a_this_told a_this_st a_this_text v_this_letters v_this_place v_this_token v_this_value v_this_begins a_this_read v_this_clauses a_this_ahead v_this_undoMany a_this_isKept a_this_kept v_this_fewestMany v_this_fewestSets v_this_fewestSet v_this_fewestMost a_this_aside a_this_seens v_this_seenMany v_this_seens v_this_told) 101 [(0, .ref a_this), (1, .int x1), (2, .int x2), (4, .int x4)] [] := by
    subst hZ
    intro k_4 hk_4 k_15 hk_15 x1 x2 x4 hf
    refine r_iconst C 0 dX9_quotas_101 (by decide) ?_
    exact ST_lv [0, 1, 2, 3] rfl (hb_102 k_4 hk_4 k_15 hk_15 x1 x2 x4 0 hf)
  have hb_94 : ∀ (k_4 : Int32 → Int32 → Option (Int32)), (∀ (x1 : Int32) (x2 : Int32), k_4 x1 x2 = some res → Z (w_X9_quotas cyI cyZ cyW a_this a_this_told a_this_st a_this_text v_this_letters v_this_place v_this_token v_this_value v_this_begins a_this_read v_this_clauses a_this_ahead v_this_undoMany a_this_isKept a_this_kept v_this_fewestMany v_this_fewestSets v_this_fewestSet v_this_fewestMost a_this_aside a_this_seens v_this_seenMany v_this_seens v_this_told) 4 [(0, .ref a_this), (1, .int x1), (2, .int x2)] []) → ∀ (k_15 : Int32 → Int32 → Int32 → Int32 → Option (Int32)), (∀ (x1 : Int32) (x2 : Int32) (x3 : Int32) (x4 : Int32), k_15 x1 x2 x3 x4 = some res → Z (w_X9_quotas cyI cyZ cyW a_this a_this_told a_this_st a_this_text v_this_letters v_this_place v_this_token v_this_value v_this_begins a_this_read v_this_clauses a_this_ahead v_this_undoMany a_this_isKept a_this_kept v_this_fewestMany v_this_fewestSets v_this_fewestSet v_this_fewestMost a_this_aside a_this_seens v_this_seenMany v_this_seens v_this_told) 15 [(0, .ref a_this), (1, .int x1), (2, .int x2), (3, .int x3), (4, .int x4)] []) → ∀ (x1 : Int32) (x2 : Int32) (x4 : Int32) (s0 : Int32) (s1 : Int32), f_X9_quotas_b94 v_this_seenMany v_this_seens v_this_told k_4 k_15 x1 x2 x4 s0 s1 = some res → Z (w_X9_quotas cyI cyZ cyW a_this a_this_told a_this_st a_this_text v_this_letters v_this_place v_this_token v_this_value v_this_begins a_this_read v_this_clauses a_this_ahead v_this_undoMany a_this_isKept a_this_kept v_this_fewestMany v_this_fewestSets v_this_fewestSet v_this_fewestMost a_this_aside a_this_seens v_this_seenMany v_this_seens v_this_told) 94 [(0, .ref a_this), (1, .int x1), (2, .int x2), (4, .int x4)] [.int s0, .int s1] := by
    subst hZ
    intro k_4 hk_4 k_15 hk_15 x1 x2 x4 s0 s1 hf
    refine r_icmp_ne C 101 dX9_quotas_94 (by decide) hf (fun hf => ?_) (fun hf => ?_)
    · exact ST_lv [0, 1, 2, 3] rfl (hb_101 k_4 hk_4 k_15 hk_15 x1 x2 x4 hf)
    · refine r_iconst C 1 dX9_quotas_97 (by decide) ?_
      refine r_goto C 102 dX9_quotas_98 (by decide) ?_
      exact ST_lv [0, 1, 2, 3] rfl (hb_102 k_4 hk_4 k_15 hk_15 x1 x2 x4 1 hf)
  have hb_66 : ∀ (k_4 : Int32 → Int32 → Option (Int32)), (∀ (x1 : Int32) (x2 : Int32), k_4 x1 x2 = some res → Z (w_X9_quotas cyI cyZ cyW a_this a_this_told a_this_st a_this_text v_this_letters v_this_place v_this_token v_this_value v_this_begins a_this_read v_this_clauses a_this_ahead v_this_undoMany a_this_isKept a_this_kept v_this_fewestMany v_this_fewestSets v_this_fewestSet v_this_fewestMost a_this_aside a_this_seens v_this_seenMany v_this_seens v_this_told) 4 [(0, .ref a_this), (1, .int x1), (2, .int x2)] []) → ∀ (k_15 : Int32 → Int32 → Int32 → Int32 → Option (Int32)), (∀ (x1 : Int32) (x2 : Int32) (x3 : Int32) (x4 : Int32), k_15 x1 x2 x3 x4 = some res → Z (w_X9_quotas cyI cyZ cyW a_this a_this_told a_this_st a_this_text v_this_letters v_this_place v_this_token v_this_value v_this_begins a_this_read v_this_clauses a_this_ahead v_this_undoMany a_this_isKept a_this_kept v_this_fewestMany v_this_fewestSets v_this_fewestSet v_this_fewestMost a_this_aside a_this_seens v_this_seenMany v_this_seens v_this_told) 15 [(0, .ref a_this), (1, .int x1), (2, .int x2), (3, .int x3), (4, .int x4)] []) → ∀ (x1 : Int32) (x2 : Int32) (x3 : Int32) (x4 : Int32) (s0 : Int32), f_X9_quotas_b66 v_this_seenMany v_this_seens v_this_told k_4 k_15 x1 x2 x3 x4 s0 = some res → Z (w_X9_quotas cyI cyZ cyW a_this a_this_told a_this_st a_this_text v_this_letters v_this_place v_this_token v_this_value v_this_begins a_this_read v_this_clauses a_this_ahead v_this_undoMany a_this_isKept a_this_kept v_this_fewestMany v_this_fewestSets v_this_fewestSet v_this_fewestMost a_this_aside a_this_seens v_this_seenMany v_this_seens v_this_told) 66 [(0, .ref a_this), (1, .int x1), (2, .int x2), (3, .int x3), (4, .int x4)] [.int s0] := by
    subst hZ
    intro k_4 hk_4 k_15 hk_15 x1 x2 x3 x4 s0 hf
    refine r_istore (lv' := [(5, .int s0), (0, .ref a_this), (1, .int x1), (2, .int x2), (3, .int x3), (4, .int x4)]) C dX9_quotas_66 (by decide) rfl ?_
    refine r_iload_n C dX9_quotas_68 rfl 4 rfl ?_
    refine r_if_eq C 101 dX9_quotas_69 (by decide) hf (fun hf => ?_) (fun hf => ?_)
    · exact ST_lv [1, 2, 3, 5] rfl (hb_101 k_4 hk_4 k_15 hk_15 x1 x2 x4 hf)
    · refine r_iload C dX9_quotas_72 0 rfl ?_
      refine r_aload_n C dX9_quotas_74 rfl 1 rfl ?_
      refine r_get C in_X9_quotas_X9 0 rfl rfl 19 (by decide) lk_X9_quotas_2 rfl rfl dX9_quotas_75 ?_
      refine r_iconst C 3 dX9_quotas_78 (by decide) ?_
      refine r_iload C dX9_quotas_79 5 rfl ?_
      refine r_imul C dX9_quotas_81 ?_
      refine r_iconst C 2 dX9_quotas_82 (by decide) ?_
      refine r_iadd C dX9_quotas_83 ?_
      obtain ⟨hi5, hf⟩ := gd_some hf
      refine r_iald C 1 0 rfl rfl hi5 dX9_quotas_84 ?_
      refine r_iconst C 1 dX9_quotas_85 (by decide) ?_
      refine r_icmp_ne C 93 dX9_quotas_86 (by decide) hf (fun hf => ?_) (fun hf => ?_)
      · refine r_iconst C 0 dX9_quotas_93 (by decide) ?_
        exact ST_lv [1, 2, 3, 5] rfl (hb_94 k_4 hk_4 k_15 hk_15 x1 x2 x4 0 s0 hf)
      · refine r_iconst C 1 dX9_quotas_89 (by decide) ?_
        refine r_goto C 94 dX9_quotas_90 (by decide) ?_
        exact ST_lv [1, 2, 3, 5] rfl (hb_94 k_4 hk_4 k_15 hk_15 x1 x2 x4 1 s0 hf)
  have hb_54 : ∀ (k_4 : Int32 → Int32 → Option (Int32)), (∀ (x1 : Int32) (x2 : Int32), k_4 x1 x2 = some res → Z (w_X9_quotas cyI cyZ cyW a_this a_this_told a_this_st a_this_text v_this_letters v_this_place v_this_token v_this_value v_this_begins a_this_read v_this_clauses a_this_ahead v_this_undoMany a_this_isKept a_this_kept v_this_fewestMany v_this_fewestSets v_this_fewestSet v_this_fewestMost a_this_aside a_this_seens v_this_seenMany v_this_seens v_this_told) 4 [(0, .ref a_this), (1, .int x1), (2, .int x2)] []) → ∀ (k_15 : Int32 → Int32 → Int32 → Int32 → Option (Int32)), (∀ (x1 : Int32) (x2 : Int32) (x3 : Int32) (x4 : Int32), k_15 x1 x2 x3 x4 = some res → Z (w_X9_quotas cyI cyZ cyW a_this a_this_told a_this_st a_this_text v_this_letters v_this_place v_this_token v_this_value v_this_begins a_this_read v_this_clauses a_this_ahead v_this_undoMany a_this_isKept a_this_kept v_this_fewestMany v_this_fewestSets v_this_fewestSet v_this_fewestMost a_this_aside a_this_seens v_this_seenMany v_this_seens v_this_told) 15 [(0, .ref a_this), (1, .int x1), (2, .int x2), (3, .int x3), (4, .int x4)] []) → ∀ (x1 : Int32) (x2 : Int32) (x3 : Int32) (x4 : Int32) (s0 : Int32) (s1 : Int32), f_X9_quotas_b54 v_this_seenMany v_this_seens v_this_told k_4 k_15 x1 x2 x3 x4 s0 s1 = some res → Z (w_X9_quotas cyI cyZ cyW a_this a_this_told a_this_st a_this_text v_this_letters v_this_place v_this_token v_this_value v_this_begins a_this_read v_this_clauses a_this_ahead v_this_undoMany a_this_isKept a_this_kept v_this_fewestMany v_this_fewestSets v_this_fewestSet v_this_fewestMost a_this_aside a_this_seens v_this_seenMany v_this_seens v_this_told) 54 [(0, .ref a_this), (1, .int x1), (2, .int x2), (3, .int x3), (4, .int x4)] [.int s0, .int s1, .ref a_this] := by
    subst hZ
    intro k_4 hk_4 k_15 hk_15 x1 x2 x3 x4 s0 s1 hf
    obtain ⟨y3, hy4, hf⟩ := bd_some hf
    refine r_roV_i (As := [.int s1, .int s0]) (rest := []) C (c_X9_weightsBy l D cyI cyZ cyW a_this a_this_told a_this_st a_this_text v_this_letters v_this_place v_this_token v_this_value v_this_begins a_this_read v_this_clauses a_this_ahead v_this_undoMany a_this_isKept a_this_kept v_this_fewestMany v_this_fewestSets v_this_fewestSet v_this_fewestMost a_this_aside a_this_seens v_this_seenMany v_this_told s1 s0 y3 hy4) gX9_quotas_X9_weightsBy rfl hyV_X9_weightsBy ⟨rfl, rfl, (Nat.le_of_ble_eq_true rfl), (Nat.le_of_ble_eq_true rfl)⟩ rfl 0 rfl rfl [0, 2] rfl rfl rfl (Nat.le_of_ble_eq_true rfl) ⟨Nat.zero_le _, Nat.zero_le _⟩ dX9_quotas_54 ?_
    refine r_iload_n C dX9_quotas_57 rfl 2 rfl ?_
    refine r_icmp_lt C 65 dX9_quotas_58 (by decide) hf (fun hf => ?_) (fun hf => ?_)
    · refine r_iconst C 0 dX9_quotas_65 (by decide) ?_
      exact ST_lv [0, 1, 2, 3, 4] rfl (hb_66 k_4 hk_4 k_15 hk_15 x1 x2 x3 x4 0 hf)
    · refine r_iconst C 1 dX9_quotas_61 (by decide) ?_
      refine r_goto C 66 dX9_quotas_62 (by decide) ?_
      exact ST_lv [0, 1, 2, 3, 4] rfl (hb_66 k_4 hk_4 k_15 hk_15 x1 x2 x3 x4 1 hf)
  have hs_15 : ∀ (k_4 : Int32 → Int32 → Option (Int32)), (∀ (x1 : Int32) (x2 : Int32), k_4 x1 x2 = some res → Z (w_X9_quotas cyI cyZ cyW a_this a_this_told a_this_st a_this_text v_this_letters v_this_place v_this_token v_this_value v_this_begins a_this_read v_this_clauses a_this_ahead v_this_undoMany a_this_isKept a_this_kept v_this_fewestMany v_this_fewestSets v_this_fewestSet v_this_fewestMost a_this_aside a_this_seens v_this_seenMany v_this_seens v_this_told) 4 [(0, .ref a_this), (1, .int x1), (2, .int x2)] []) → ∀ (k_15 : Int32 → Int32 → Int32 → Int32 → Option (Int32)), (∀ (x1 : Int32) (x2 : Int32) (x3 : Int32) (x4 : Int32), k_15 x1 x2 x3 x4 = some res → Z (w_X9_quotas cyI cyZ cyW a_this a_this_told a_this_st a_this_text v_this_letters v_this_place v_this_token v_this_value v_this_begins a_this_read v_this_clauses a_this_ahead v_this_undoMany a_this_isKept a_this_kept v_this_fewestMany v_this_fewestSets v_this_fewestSet v_this_fewestMost a_this_aside a_this_seens v_this_seenMany v_this_seens v_this_told) 15 [(0, .ref a_this), (1, .int x1), (2, .int x2), (3, .int x3), (4, .int x4)] []) → ∀ (x1 : Int32) (x2 : Int32) (x3 : Int32) (x4 : Int32), f_X9_quotas_s15 v_this_seenMany v_this_seens v_this_told k_4 k_15 x1 x2 x3 x4 = some res → Z (w_X9_quotas cyI cyZ cyW a_this a_this_told a_this_st a_this_text v_this_letters v_this_place v_this_token v_this_value v_this_begins a_this_read v_this_clauses a_this_ahead v_this_undoMany a_this_isKept a_this_kept v_this_fewestMany v_this_fewestSets v_this_fewestSet v_this_fewestMost a_this_aside a_this_seens v_this_seenMany v_this_seens v_this_told) 15 [(0, .ref a_this), (1, .int x1), (2, .int x2), (3, .int x3), (4, .int x4)] [] := by
    subst hZ
    intro k_4 hk_4 k_15 hk_15 x1 x2 x3 x4 hf
    refine r_iload C dX9_quotas_15 4 rfl ?_
    refine r_aload_n C dX9_quotas_17 rfl 0 rfl ?_
    refine r_get C in_X9_quotas_X9 0 rfl rfl 20 (by decide) lk_X9_quotas_1 rfl rfl dX9_quotas_18 ?_
    refine r_icmp_ge C 109 dX9_quotas_21 (by decide) hf (fun hf => ?_) (fun hf => ?_)
    · refine r_iload_n C dX9_quotas_109 rfl 1 rfl ?_
      refine r_iload_n C dX9_quotas_110 rfl 3 rfl ?_
      refine r_if_eq C 120 dX9_quotas_111 (by decide) hf (fun hf => ?_) (fun hf => ?_)
      · refine r_iconst C 0 dX9_quotas_120 (by decide) ?_
        exact ST_lv [0, 2] rfl (hb_121 k_4 hk_4 x2 0 x1 hf)
      · refine r_iconst C 1 dX9_quotas_114 (by decide) ?_
        refine r_iload_n C dX9_quotas_115 rfl 2 rfl ?_
        refine r_ishl C dX9_quotas_116 ?_
        refine r_goto C 121 dX9_quotas_117 (by decide) ?_
        exact ST_lv [0, 2] rfl (hb_121 k_4 hk_4 x2 ((1 : Int32) <<< (x2 &&& 31)) x1 hf)
    · refine r_aload_n C dX9_quotas_24 rfl 0 rfl ?_
      refine r_aload_n C dX9_quotas_25 rfl 0 rfl ?_
      refine r_get C in_X9_quotas_X9 0 rfl rfl 19 (by decide) lk_X9_quotas_2 rfl rfl dX9_quotas_26 ?_
      refine r_iconst C 3 dX9_quotas_29 (by decide) ?_
      refine r_iload C dX9_quotas_30 4 rfl ?_
      refine r_imul C dX9_quotas_32 ?_
      obtain ⟨hi1, hf⟩ := gd_some hf
      refine r_iald C 1 0 rfl rfl hi1 dX9_quotas_33 ?_
      refine r_aload_n C dX9_quotas_34 rfl 0 rfl ?_
      refine r_get C in_X9_quotas_X9 0 rfl rfl 19 (by decide) lk_X9_quotas_2 rfl rfl dX9_quotas_35 ?_
      refine r_iconst C 3 dX9_quotas_38 (by decide) ?_
      refine r_iload C dX9_quotas_39 4 rfl ?_
      refine r_imul C dX9_quotas_41 ?_
      refine r_iconst C 1 dX9_quotas_42 (by decide) ?_
      refine r_iadd C dX9_quotas_43 ?_
      obtain ⟨hi2, hf⟩ := gd_some hf
      refine r_iald C 1 0 rfl rfl hi2 dX9_quotas_44 ?_
      refine r_iconst C 1 dX9_quotas_45 (by decide) ?_
      refine r_icmp_ne C 53 dX9_quotas_46 (by decide) hf (fun hf => ?_) (fun hf => ?_)
      · refine r_iconst C 0 dX9_quotas_53 (by decide) ?_
        exact ST_lv [0, 1, 2, 3, 4] rfl (hb_54 k_4 hk_4 k_15 hk_15 x1 x2 x3 x4 0 (v_this_seens (Int32.toNatClampNeg (3 * x4))) hf)
      · refine r_iconst C 1 dX9_quotas_49 (by decide) ?_
        refine r_goto C 54 dX9_quotas_50 (by decide) ?_
        exact ST_lv [0, 1, 2, 3, 4] rfl (hb_54 k_4 hk_4 k_15 hk_15 x1 x2 x3 x4 1 (v_this_seens (Int32.toNatClampNeg (3 * x4))) hf)
  have hb_15 : ∀ (k_4 : Int32 → Int32 → Option (Int32)), (∀ (x1 : Int32) (x2 : Int32), k_4 x1 x2 = some res → Z (w_X9_quotas cyI cyZ cyW a_this a_this_told a_this_st a_this_text v_this_letters v_this_place v_this_token v_this_value v_this_begins a_this_read v_this_clauses a_this_ahead v_this_undoMany a_this_isKept a_this_kept v_this_fewestMany v_this_fewestSets v_this_fewestSet v_this_fewestMost a_this_aside a_this_seens v_this_seenMany v_this_seens v_this_told) 4 [(0, .ref a_this), (1, .int x1), (2, .int x2)] []) → ∀ (n : Nat) (x1 : Int32) (x2 : Int32) (x3 : Int32) (x4 : Int32), f_X9_quotas_b15 v_this_seenMany v_this_seens v_this_told k_4 n x1 x2 x3 x4 = some res → Z (w_X9_quotas cyI cyZ cyW a_this a_this_told a_this_st a_this_text v_this_letters v_this_place v_this_token v_this_value v_this_begins a_this_read v_this_clauses a_this_ahead v_this_undoMany a_this_isKept a_this_kept v_this_fewestMany v_this_fewestSets v_this_fewestSet v_this_fewestMost a_this_aside a_this_seens v_this_seenMany v_this_seens v_this_told) 15 [(0, .ref a_this), (1, .int x1), (2, .int x2), (3, .int x3), (4, .int x4)] [] := by
    intro k_4 hk_4 n
    induction n with
    | zero => intro x1 x2 x3 x4 hf; exact nn_ hf
    | succ n ih => exact fun x1 x2 x3 x4 hf => hs_15 k_4 hk_4 _ ih x1 x2 x3 x4 hf
  have hs_4 : ∀ (k_4 : Int32 → Int32 → Option (Int32)), (∀ (x1 : Int32) (x2 : Int32), k_4 x1 x2 = some res → Z (w_X9_quotas cyI cyZ cyW a_this a_this_told a_this_st a_this_text v_this_letters v_this_place v_this_token v_this_value v_this_begins a_this_read v_this_clauses a_this_ahead v_this_undoMany a_this_isKept a_this_kept v_this_fewestMany v_this_fewestSets v_this_fewestSet v_this_fewestMost a_this_aside a_this_seens v_this_seenMany v_this_seens v_this_told) 4 [(0, .ref a_this), (1, .int x1), (2, .int x2)] []) → ∀ (x1 : Int32) (x2 : Int32), f_X9_quotas_s4 v_this_seenMany v_this_seens v_this_told k_4 x1 x2 = some res → Z (w_X9_quotas cyI cyZ cyW a_this a_this_told a_this_st a_this_text v_this_letters v_this_place v_this_token v_this_value v_this_begins a_this_read v_this_clauses a_this_ahead v_this_undoMany a_this_isKept a_this_kept v_this_fewestMany v_this_fewestSets v_this_fewestSet v_this_fewestMost a_this_aside a_this_seens v_this_seenMany v_this_seens v_this_told) 4 [(0, .ref a_this), (1, .int x1), (2, .int x2)] [] := by
    subst hZ
    intro k_4 hk_4 x1 x2 hf
    refine r_iload_n C dX9_quotas_4 rfl 2 rfl ?_
    refine r_bipush C 20 dX9_quotas_5 (by decide) ?_
    refine r_icmp_gt C 129 dX9_quotas_7 (by decide) hf (fun hf => ?_) (fun hf => ?_)
    · refine r_iload_n C dX9_quotas_129 rfl 1 rfl ?_
      rw [← Option.some.inj hf]
      exact r_iret C hr hlk dX9_quotas_130
    · refine r_iconst C 1 dX9_quotas_10 (by decide) ?_
      refine r_istore_n (lv' := [(3, .int 1), (0, .ref a_this), (1, .int x1), (2, .int x2)]) C dX9_quotas_11 rfl (by decide) rfl ?_
      refine r_iconst C 0 dX9_quotas_12 (by decide) ?_
      refine r_istore (lv' := [(4, .int 0), (3, .int 1), (0, .ref a_this), (1, .int x1), (2, .int x2)]) C dX9_quotas_13 (by decide) rfl ?_
      exact ST_lv [2, 3, 4, 1, 0] rfl (hb_15 k_4 hk_4 5000 x1 x2 1 0 hf)
  have hb_4 : ∀ (n : Nat) (x1 : Int32) (x2 : Int32), f_X9_quotas_b4 v_this_seenMany v_this_seens v_this_told n x1 x2 = some res → Z (w_X9_quotas cyI cyZ cyW a_this a_this_told a_this_st a_this_text v_this_letters v_this_place v_this_token v_this_value v_this_begins a_this_read v_this_clauses a_this_ahead v_this_undoMany a_this_isKept a_this_kept v_this_fewestMany v_this_fewestSets v_this_fewestSet v_this_fewestMost a_this_aside a_this_seens v_this_seenMany v_this_seens v_this_told) 4 [(0, .ref a_this), (1, .int x1), (2, .int x2)] [] := by
    intro  n
    induction n with
    | zero => intro x1 x2 hf; exact nn_ hf
    | succ n ih => exact fun x1 x2 hf => hs_4 _ ih x1 x2 hf
  subst hZ
  refine r_iconst C 0 dX9_quotas_0 (by decide) ?_
  refine r_istore_n (lv' := [(1, .int 0), (0, .ref a_this)]) C dX9_quotas_1 rfl (by decide) rfl ?_
  refine r_iconst C 1 dX9_quotas_2 (by decide) ?_
  refine r_istore_n (lv' := [(2, .int 1), (1, .int 0), (0, .ref a_this)]) C dX9_quotas_3 rfl (by decide) rfl ?_
  exact ST_lv [2, 1, 0] rfl (hb_4 5000 0 1 hf)

theorem lk_X9_frosts_1 : Cond.constantLong RX9 210 (6) ∈ wsX9_frosts := List.mem_of_getElem? (i := 1) rfl
theorem lk_X9_frosts_2 : Cond.constantLong RX9 212 (10) ∈ wsX9_frosts := List.mem_of_getElem? (i := 2) rfl
def f_X9_frosts_b147 (k_81 : Int32 → Int32 → Int32 → Int32 → Int32 → Int32 → Int32 → Option (Int32)) (x1 : Int32) (x2 : Int32) (x3 : Int32) (x4 : Int32) (x6 : Int32) (x7 : Int32) (s0 : Int32) (s1 : Int32) : Option (Int32) := k_81 x1 x2 x3 x4 (s1 + s0) x6 (x7 + 1)
def f_X9_frosts_b121 (k_81 : Int32 → Int32 → Int32 → Int32 → Int32 → Int32 → Int32 → Option (Int32)) (k_95 : Int32 → Int32 → Int32 → Int32 → Int32 → Int32 → Int32 → Int32 → Int32 → Option (Int32)) (x1 : Int32) (x2 : Int32) (x3 : Int32) (x4 : Int32) (x5 : Int32) (x6 : Int32) (x7 : Int32) (x9 : Int32) (s0 : Int32) (s1 : Int32) : Option (Int32) := k_95 x1 x2 x3 x4 x5 x6 x7 (s1 * s0) (x9 + 1)
def f_X9_frosts_s95 (k_81 : Int32 → Int32 → Int32 → Int32 → Int32 → Int32 → Int32 → Option (Int32)) (k_95 : Int32 → Int32 → Int32 → Int32 → Int32 → Int32 → Int32 → Int32 → Int32 → Option (Int32)) (x1 : Int32) (x2 : Int32) (x3 : Int32) (x4 : Int32) (x5 : Int32) (x6 : Int32) (x7 : Int32) (x8 : Int32) (x9 : Int32) : Option (Int32) := if x1 ≤ x9 then ((f_X9_ones x7).bind fun y13 => if y13 < x2 then (f_X9_frosts_b147 k_81 x1 x2 x3 x4 x6 x7 0 x5) else (f_X9_frosts_b147 k_81 x1 x2 x3 x4 x6 x7 x8 x5)) else ((f_X9_has x7 x9).bind fun y15 => if y15 = 0 then (f_X9_frosts_b121 k_81 k_95 x1 x2 x3 x4 x5 x6 x7 x9 (10 - x3) x8) else (f_X9_frosts_b121 k_81 k_95 x1 x2 x3 x4 x5 x6 x7 x9 x3 x8))
def f_X9_frosts_b95 (k_81 : Int32 → Int32 → Int32 → Int32 → Int32 → Int32 → Int32 → Option (Int32)) (n : Nat) : Int32 → Int32 → Int32 → Int32 → Int32 → Int32 → Int32 → Int32 → Int32 → Option (Int32) := it_ (f_X9_frosts_s95 k_81) (fun _ _ _ _ _ _ _ _ _ => none) n
def f_X9_frosts_s81 (k_81 : Int32 → Int32 → Int32 → Int32 → Int32 → Int32 → Int32 → Option (Int32)) (x1 : Int32) (x2 : Int32) (x3 : Int32) (x4 : Int32) (x5 : Int32) (x6 : Int32) (x7 : Int32) : Option (Int32) := if ((1 : Int32) <<< (x1 &&& 31)) ≤ x7 then ((f_X9_common x5 x6).bind fun y9 => if x4 = 0 then (nz_ y9 (some ((x5 / y9)))) else (nz_ y9 (some ((x6 / y9))))) else (f_X9_frosts_b95 k_81 5000 x1 x2 x3 x4 x5 x6 x7 1 0)
def f_X9_frosts_b81 (n : Nat) : Int32 → Int32 → Int32 → Int32 → Int32 → Int32 → Int32 → Option (Int32) := it_ (f_X9_frosts_s81 ) (fun _ _ _ _ _ _ _ => none) n
def f_X9_frosts_s59 (k_59 : Int32 → Int32 → Int32 → Int32 → Int32 → Int32 → Int32 → Option (Int32)) (x1 : Int32) (x2 : Int32) (x3 : Int32) (x4 : Int32) (x5 : Int32) (x6 : Int32) (x7 : Int32) : Option (Int32) := if x1 ≤ x7 then (f_X9_frosts_b81 5000 x1 x2 x3 x4 x5 x6 0) else (k_59 x1 x2 x3 x4 x5 (x6 * 10) (x7 + 1))
def f_X9_frosts_b59 (n : Nat) : Int32 → Int32 → Int32 → Int32 → Int32 → Int32 → Int32 → Option (Int32) := it_ (f_X9_frosts_s59 ) (fun _ _ _ _ _ _ _ => none) n
def f_X9_frosts (x1 : Int32) (x2 : Int32) (x3 : Int32) (x4 : Int32) : Option (Int32) := (f_X9_in (Int32.toInt64 x1) 0 6).bind fun y1 => if y1 = 0 then (some ((-3))) else ((f_X9_in (Int32.toInt64 x2) 0 6).bind fun y3 => if y3 = 0 then (some ((-3))) else ((f_X9_in (Int32.toInt64 x3) 0 10).bind fun y5 => if y5 = 0 then (some ((-3))) else ((f_X9_in (Int32.toInt64 x4) 0 1).bind fun y7 => if y7 = 0 then (some ((-3))) else (f_X9_frosts_b59 5000 x1 x2 x3 x4 0 1 0))))
def w_X9_frosts (cyI cyZ cyW : ClassId) (a_this : Nat) (a_this_told : Nat) (a_this_st : Nat) (a_this_text : Nat) (v_this_letters : Int32) (v_this_place : Int32) (v_this_token : Int32) (v_this_value : Int32) (v_this_begins : Int32) (a_this_read : Nat) (v_this_clauses : Int32) (a_this_ahead : Nat) (v_this_undoMany : Int32) (a_this_isKept : Nat) (a_this_kept : Nat) (v_this_fewestMany : Int32) (v_this_fewestSets : Int32) (v_this_fewestSet : Int32) (v_this_fewestMost : Int32) (a_this_aside : Nat) (a_this_seens : Nat) (v_this_seenMany : Int32) : va_W := [(a_this, .inr (9, [.ref a_this_told, .ref a_this_st, .ref a_this_text, .int v_this_letters, .int v_this_place, .int v_this_token, .int v_this_value, .int v_this_begins, .ref a_this_read, .int v_this_clauses, .ref a_this_ahead, .int v_this_undoMany, .ref a_this_isKept, .ref a_this_kept, .int v_this_fewestMany, .int v_this_fewestSets, .int v_this_fewestSet, .int v_this_fewestMost, .ref a_this_aside, .ref a_this_seens, .int v_this_seenMany]))]
set_option maxHeartbeats 4000000 in
set_option maxRecDepth 100000 in
theorem c_X9_frosts (l : Launch) (D : va_G) (cyI cyZ cyW : ClassId) (a_this : Nat) (a_this_told : Nat) (a_this_st : Nat) (a_this_text : Nat) (v_this_letters : Int32) (v_this_place : Int32) (v_this_token : Int32) (v_this_value : Int32) (v_this_begins : Int32) (a_this_read : Nat) (v_this_clauses : Int32) (a_this_ahead : Nat) (v_this_undoMany : Int32) (a_this_isKept : Nat) (a_this_kept : Nat) (v_this_fewestMany : Int32) (v_this_fewestSets : Int32) (v_this_fewestSet : Int32) (v_this_fewestMost : Int32) (a_this_aside : Nat) (a_this_seens : Nat) (v_this_seenMany : Int32) (x1 : Int32) (x2 : Int32) (x3 : Int32) (x4 : Int32) (res : Int32) (hf : f_X9_frosts x1 x2 x3 x4 = some res) : ∀ sz, Met l yX9_frosts wsX9_frosts { frames := 1, cells := 0, slots := 0, locals := 25 } (PCx D (tyG cyI cyZ cyW) [.ref a_this, .int x1, .int x2, .int x3, .int x4] (w_X9_frosts cyI cyZ cyW a_this a_this_told a_this_st a_this_text v_this_letters v_this_place v_this_token v_this_value v_this_begins a_this_read v_this_clauses a_this_ahead v_this_undoMany a_this_isKept a_this_kept v_this_fewestMany v_this_fewestSets v_this_fewestSet v_this_fewestMost a_this_aside a_this_seens v_this_seenMany) sz) (QI D (tyG cyI cyZ cyW) (w_X9_frosts cyI cyZ cyW a_this a_this_told a_this_st a_this_text v_this_letters v_this_place v_this_token v_this_value v_this_begins a_this_read v_this_clauses a_this_ahead v_this_undoMany a_this_isKept a_this_kept v_this_fewestMany v_this_fewestSets v_this_fewestSet v_this_fewestMost a_this_aside a_this_seens v_this_seenMany) sz res (w_X9_frosts cyI cyZ cyW a_this a_this_told a_this_st a_this_text v_this_letters v_this_place v_this_token v_this_value v_this_begins a_this_read v_this_clauses a_this_ahead v_this_undoMany a_this_isKept a_this_kept v_this_fewestMany v_this_fewestSets v_this_fewestSet v_this_fewestMost a_this_aside a_this_seens v_this_seenMany)) 0 0 (va_A (w_X9_frosts cyI cyZ cyW a_this a_this_told a_this_st a_this_text v_this_letters v_this_place v_this_token v_this_value v_this_begins a_this_read v_this_clauses a_this_ahead v_this_undoMany a_this_isKept a_this_kept v_this_fewestMany v_this_fewestSets v_this_fewestSet v_this_fewestMost a_this_aside a_this_seens v_this_seenMany) sz) := by
  intro sz
  refine met_of (cc := cX9_frosts) (maxL := 10) (ret := (some .int)) (lv0 := [(0, .ref a_this), (1, .int x1), (2, .int x2), (3, .int x3), (4, .int x4)]) (by decide) rfl ⟨(Nat.le_of_ble_eq_true rfl), rfl⟩ ?_
  intro p e s m below meth c C hr hlk hnm hsz
  subst hsz
  have C : CX p s m _ c 10 cX9_frosts RX9 wsX9_frosts D (tyG cyI cyZ cyW) _ := C
  obtain ⟨Z, hZ⟩ : ∃ Z : va_W → Nat → LV → List Value → Prop, Z = ST p l e { frames := 1, cells := 0, slots := 0, locals := 25 } s m [.ref a_this, .int x1, .int x2, .int x3, .int x4].toArray below meth c 10 D (va_A (w_X9_frosts cyI cyZ cyW a_this a_this_told a_this_st a_this_text v_this_letters v_this_place v_this_token v_this_value v_this_begins a_this_read v_this_clauses a_this_ahead v_this_undoMany a_this_isKept a_this_kept v_this_fewestMany v_this_fewestSets v_this_fewestSet v_this_fewestMost a_this_aside a_this_seens v_this_seenMany) s.heap.size) (MQ below (QI D (tyG cyI cyZ cyW) (w_X9_frosts cyI cyZ cyW a_this a_this_told a_this_st a_this_text v_this_letters v_this_place v_this_token v_this_value v_this_begins a_this_read v_this_clauses a_this_ahead v_this_undoMany a_this_isKept a_this_kept v_this_fewestMany v_this_fewestSets v_this_fewestSet v_this_fewestMost a_this_aside a_this_seens v_this_seenMany) s.heap.size res (w_X9_frosts cyI cyZ cyW a_this a_this_told a_this_st a_this_text v_this_letters v_this_place v_this_token v_this_value v_this_begins a_this_read v_this_clauses a_this_ahead v_this_undoMany a_this_isKept a_this_kept v_this_fewestMany v_this_fewestSets v_this_fewestSet v_this_fewestMost a_this_aside a_this_seens v_this_seenMany)) [.ref a_this, .int x1, .int x2, .int x3, .int x4].toArray s 0 0 (va_A (w_X9_frosts cyI cyZ cyW a_this a_this_told a_this_st a_this_text v_this_letters v_this_place v_this_token v_this_value v_this_begins a_this_read v_this_clauses a_this_ahead v_this_undoMany a_this_isKept a_this_kept v_this_fewestMany v_this_fewestSets v_this_fewestSet v_this_fewestMost a_this_aside a_this_seens v_this_seenMany) s.heap.size)) 0 0 := ⟨_, rfl⟩
  have hb_147 : ∀ (k_81 : Int32 → Int32 → Int32 → Int32 → Int32 → Int32 → Int32 → Option (Int32)), (∀ (x1 : Int32) (x2 : Int32) (x3 : Int32) (x4 : Int32) (x5 : Int32) (x6 : Int32) (x7 : Int32), k_81 x1 x2 x3 x4 x5 x6 x7 = some res → Z (w_X9_frosts cyI cyZ cyW a_this a_this_told a_this_st a_this_text v_this_letters v_this_place v_this_token v_this_value v_this_begins a_this_read v_this_clauses a_this_ahead v_this_undoMany a_this_isKept a_this_kept v_this_fewestMany v_this_fewestSets v_this_fewestSet v_this_fewestMost a_this_aside a_this_seens v_this_seenMany) 81 [(1, .int x1), (2, .int x2), (3, .int x3), (4, .int x4), (5, .int x5), (6, .int x6), (7, .int x7)] []) → ∀ (x1 : Int32) (x2 : Int32) (x3 : Int32) (x4 : Int32) (x6 : Int32) (x7 : Int32) (s0 : Int32) (s1 : Int32), f_X9_frosts_b147 k_81 x1 x2 x3 x4 x6 x7 s0 s1 = some res → Z (w_X9_frosts cyI cyZ cyW a_this a_this_told a_this_st a_this_text v_this_letters v_this_place v_this_token v_this_value v_this_begins a_this_read v_this_clauses a_this_ahead v_this_undoMany a_this_isKept a_this_kept v_this_fewestMany v_this_fewestSets v_this_fewestSet v_this_fewestMost a_this_aside a_this_seens v_this_seenMany) 147 [(1, .int x1), (2, .int x2), (3, .int x3), (4, .int x4), (6, .int x6), (7, .int x7)] [.int s0, .int s1] := by
    subst hZ
    intro k_81 hk_81 x1 x2 x3 x4 x6 x7 s0 s1 hf
    refine r_iadd C dX9_frosts_147 ?_
    refine r_istore (lv' := [(5, .int (s1 + s0)), (1, .int x1), (2, .int x2), (3, .int x3), (4, .int x4), (6, .int x6), (7, .int x7)]) C dX9_frosts_148 (by decide) rfl ?_
    refine r_iinc (v := 1) (k := 6) (lv' := [(7, .int (x7 + 1)), (5, .int (s1 + s0)), (1, .int x1), (2, .int x2), (3, .int x3), (4, .int x4), (6, .int x6)]) C dX9_frosts_150 rfl (by decide) (by decide) rfl ?_
    refine r_goto C 81 dX9_frosts_153 (by decide) ?_
    exact ST_lv [2, 3, 4, 5, 1, 6, 0] rfl (hk_81 x1 x2 x3 x4 (s1 + s0) x6 (x7 + 1) hf)
  have hb_121 : ∀ (k_81 : Int32 → Int32 → Int32 → Int32 → Int32 → Int32 → Int32 → Option (Int32)), (∀ (x1 : Int32) (x2 : Int32) (x3 : Int32) (x4 : Int32) (x5 : Int32) (x6 : Int32) (x7 : Int32), k_81 x1 x2 x3 x4 x5 x6 x7 = some res → Z (w_X9_frosts cyI cyZ cyW a_this a_this_told a_this_st a_this_text v_this_letters v_this_place v_this_token v_this_value v_this_begins a_this_read v_this_clauses a_this_ahead v_this_undoMany a_this_isKept a_this_kept v_this_fewestMany v_this_fewestSets v_this_fewestSet v_this_fewestMost a_this_aside a_this_seens v_this_seenMany) 81 [(1, .int x1), (2, .int x2), (3, .int x3), (4, .int x4), (5, .int x5), (6, .int x6), (7, .int x7)] []) → ∀ (k_95 : Int32 → Int32 → Int32 → Int32 → Int32 → Int32 → Int32 → Int32 → Int32 → Option (Int32)), (∀ (x1 : Int32) (x2 : Int32) (x3 : Int32) (x4 : Int32) (x5 : Int32) (x6 : Int32) (x7 : Int32) (x8 : Int32) (x9 : Int32), k_95 x1 x2 x3 x4 x5 x6 x7 x8 x9 = some res → Z (w_X9_frosts cyI cyZ cyW a_this a_this_told a_this_st a_this_text v_this_letters v_this_place v_this_token v_this_value v_this_begins a_this_read v_this_clauses a_this_ahead v_this_undoMany a_this_isKept a_this_kept v_this_fewestMany v_this_fewestSets v_this_fewestSet v_this_fewestMost a_this_aside a_this_seens v_this_seenMany) 95 [(1, .int x1), (2, .int x2), (3, .int x3), (4, .int x4), (5, .int x5), (6, .int x6), (7, .int x7), (8, .int x8), (9, .int x9)] []) → ∀ (x1 : Int32) (x2 : Int32) (x3 : Int32) (x4 : Int32) (x5 : Int32) (x6 : Int32) (x7 : Int32) (x9 : Int32) (s0 : Int32) (s1 : Int32), f_X9_frosts_b121 k_81 k_95 x1 x2 x3 x4 x5 x6 x7 x9 s0 s1 = some res → Z (w_X9_frosts cyI cyZ cyW a_this a_this_told a_this_st a_this_text v_this_letters v_this_place v_this_token v_this_value v_this_begins a_this_read v_this_clauses a_this_ahead v_this_undoMany a_this_isKept a_this_kept v_this_fewestMany v_this_fewestSets v_this_fewestSet v_this_fewestMost a_this_aside a_this_seens v_this_seenMany) 121 [(1, .int x1), (2, .int x2), (3, .int x3), (4, .int x4), (5, .int x5), (6, .int x6), (7, .int x7), (9, .int x9)] [.int s0, .int s1] := by
    subst hZ
    intro k_81 hk_81 k_95 hk_95 x1 x2 x3 x4 x5 x6 x7 x9 s0 s1 hf
    refine r_imul C dX9_frosts_121 ?_
    refine r_istore (lv' := [(8, .int (s1 * s0)), (1, .int x1), (2, .int x2), (3, .int x3), (4, .int x4), (5, .int x5), (6, .int x6), (7, .int x7), (9, .int x9)]) C dX9_frosts_122 (by decide) rfl ?_
    refine r_iinc (v := 1) (k := 8) (lv' := [(9, .int (x9 + 1)), (8, .int (s1 * s0)), (1, .int x1), (2, .int x2), (3, .int x3), (4, .int x4), (5, .int x5), (6, .int x6), (7, .int x7)]) C dX9_frosts_124 rfl (by decide) (by decide) rfl ?_
    refine r_goto C 95 dX9_frosts_127 (by decide) ?_
    exact ST_lv [2, 3, 4, 5, 6, 7, 8, 1, 0] rfl (hk_95 x1 x2 x3 x4 x5 x6 x7 (s1 * s0) (x9 + 1) hf)
  have hs_95 : ∀ (k_81 : Int32 → Int32 → Int32 → Int32 → Int32 → Int32 → Int32 → Option (Int32)), (∀ (x1 : Int32) (x2 : Int32) (x3 : Int32) (x4 : Int32) (x5 : Int32) (x6 : Int32) (x7 : Int32), k_81 x1 x2 x3 x4 x5 x6 x7 = some res → Z (w_X9_frosts cyI cyZ cyW a_this a_this_told a_this_st a_this_text v_this_letters v_this_place v_this_token v_this_value v_this_begins a_this_read v_this_clauses a_this_ahead v_this_undoMany a_this_isKept a_this_kept v_this_fewestMany v_this_fewestSets v_this_fewestSet v_this_fewestMost a_this_aside a_this_seens v_this_seenMany) 81 [(1, .int x1), (2, .int x2), (3, .int x3), (4, .int x4), (5, .int x5), (6, .int x6), (7, .int x7)] []) → ∀ (k_95 : Int32 → Int32 → Int32 → Int32 → Int32 → Int32 → Int32 → Int32 → Int32 → Option (Int32)), (∀ (x1 : Int32) (x2 : Int32) (x3 : Int32) (x4 : Int32) (x5 : Int32) (x6 : Int32) (x7 : Int32) (x8 : Int32) (x9 : Int32), k_95 x1 x2 x3 x4 x5 x6 x7 x8 x9 = some res → Z (w_X9_frosts cyI cyZ cyW a_this a_this_told a_this_st a_this_text v_this_letters v_this_place v_this_token v_this_value v_this_begins a_this_read v_this_clauses a_this_ahead v_this_undoMany a_this_isKept a_this_kept v_this_fewestMany v_this_fewestSets v_this_fewestSet v_this_fewestMost a_this_aside a_this_seens v_this_seenMany) 95 [(1, .int x1), (2, .int x2), (3, .int x3), (4, .int x4), (5, .int x5), (6, .int x6), (7, .int x7), (8, .int x8), (9, .int x9)] []) → ∀ (x1 : Int32) (x2 : Int32) (x3 : Int32) (x4 : Int32) (x5 : Int32) (x6 : Int32) (x7 : Int32) (x8 : Int32) (x9 : Int32), f_X9_frosts_s95 k_81 k_95 x1 x2 x3 x4 x5 x6 x7 x8 x9 = some res → Z (w_X9_frosts cyI cyZ cyW a_this a_this_told a_this_st a_this_text v_this_letters v_this_place v_this_token v_this_value v_this_begins a_this_read v_this_clauses a_this_ahead v_this_undoMany a_this_isKept a_this_kept v_this_fewestMany v_this_fewestSets v_this_fewestSet v_this_fewestMost a_this_aside a_this_seens v_this_seenMany) 95 [(1, .int x1), (2, .int x2), (3, .int x3), (4, .int x4), (5, .int x5), (6, .int x6), (7, .int x7), (8, .int x8), (9, .int x9)] [] := by
    subst hZ
    intro k_81 hk_81 k_95 hk_95 x1 x2 x3 x4 x5 x6 x7 x8 x9 hf
    refine r_iload C dX9_frosts_95 8 rfl ?_
    refine r_iload_n C dX9_frosts_97 rfl 0 rfl ?_
    refine r_icmp_ge C 130 dX9_frosts_98 (by decide) hf (fun hf => ?_) (fun hf => ?_)
    · refine r_iload C dX9_frosts_130 4 rfl ?_
      refine r_iload C dX9_frosts_132 6 rfl ?_
      obtain ⟨y13, hy14, hf⟩ := bd_some hf
      refine r_roS_i (As := [.int x7]) (rest := [.int x5]) C (c_X9_ones l D cyI cyZ cyW x7 y13 hy14) gX9_frosts_X9_ones rfl hyS_X9_ones ⟨rfl, rfl, (Nat.le_of_ble_eq_true rfl), (Nat.le_of_ble_eq_true rfl)⟩ rfl [] rfl rfl rfl (Nat.le_of_ble_eq_true rfl) ⟨Nat.zero_le _, Nat.zero_le _⟩ dX9_frosts_134 ?_
      refine r_iload_n C dX9_frosts_137 rfl 1 rfl ?_
      refine r_icmp_lt C 146 dX9_frosts_138 (by decide) hf (fun hf => ?_) (fun hf => ?_)
      · refine r_iconst C 0 dX9_frosts_146 (by decide) ?_
        exact ST_lv [0, 1, 2, 3, 5, 6] rfl (hb_147 k_81 hk_81 x1 x2 x3 x4 x6 x7 0 x5 hf)
      · refine r_iload C dX9_frosts_141 7 rfl ?_
        refine r_goto C 147 dX9_frosts_143 (by decide) ?_
        exact ST_lv [0, 1, 2, 3, 5, 6] rfl (hb_147 k_81 hk_81 x1 x2 x3 x4 x6 x7 x8 x5 hf)
    · refine r_iload C dX9_frosts_101 7 rfl ?_
      refine r_iload C dX9_frosts_103 6 rfl ?_
      refine r_iload C dX9_frosts_105 8 rfl ?_
      obtain ⟨y15, hy16, hf⟩ := bd_some hf
      refine r_roS_i (As := [.int x7, .int x9]) (rest := [.int x8]) C (c_X9_has l D cyI cyZ cyW x7 x9 y15 hy16) gX9_frosts_X9_has rfl hyS_X9_has ⟨rfl, rfl, (Nat.le_of_ble_eq_true rfl), (Nat.le_of_ble_eq_true rfl)⟩ rfl [] rfl rfl rfl (Nat.le_of_ble_eq_true rfl) ⟨Nat.zero_le _, Nat.zero_le _⟩ dX9_frosts_107 ?_
      refine r_if_eq C 117 dX9_frosts_110 (by decide) hf (fun hf => ?_) (fun hf => ?_)
      · refine r_bipush C 10 dX9_frosts_117 (by decide) ?_
        refine r_iload_n C dX9_frosts_119 rfl 2 rfl ?_
        refine r_isub C dX9_frosts_120 ?_
        exact ST_lv [0, 1, 2, 3, 4, 5, 6, 8] rfl (hb_121 k_81 hk_81 k_95 hk_95 x1 x2 x3 x4 x5 x6 x7 x9 (10 - x3) x8 hf)
      · refine r_iload_n C dX9_frosts_113 rfl 2 rfl ?_
        refine r_goto C 121 dX9_frosts_114 (by decide) ?_
        exact ST_lv [0, 1, 2, 3, 4, 5, 6, 8] rfl (hb_121 k_81 hk_81 k_95 hk_95 x1 x2 x3 x4 x5 x6 x7 x9 x3 x8 hf)
  have hb_95 : ∀ (k_81 : Int32 → Int32 → Int32 → Int32 → Int32 → Int32 → Int32 → Option (Int32)), (∀ (x1 : Int32) (x2 : Int32) (x3 : Int32) (x4 : Int32) (x5 : Int32) (x6 : Int32) (x7 : Int32), k_81 x1 x2 x3 x4 x5 x6 x7 = some res → Z (w_X9_frosts cyI cyZ cyW a_this a_this_told a_this_st a_this_text v_this_letters v_this_place v_this_token v_this_value v_this_begins a_this_read v_this_clauses a_this_ahead v_this_undoMany a_this_isKept a_this_kept v_this_fewestMany v_this_fewestSets v_this_fewestSet v_this_fewestMost a_this_aside a_this_seens v_this_seenMany) 81 [(1, .int x1), (2, .int x2), (3, .int x3), (4, .int x4), (5, .int x5), (6, .int x6), (7, .int x7)] []) → ∀ (n : Nat) (x1 : Int32) (x2 : Int32) (x3 : Int32) (x4 : Int32) (x5 : Int32) (x6 : Int32) (x7 : Int32) (x8 : Int32) (x9 : Int32), f_X9_frosts_b95 k_81 n x1 x2 x3 x4 x5 x6 x7 x8 x9 = some res → Z (w_X9_frosts cyI cyZ cyW a_this a_this_told a_this_st a_this_text v_this_letters v_this_place v_this_token v_this_value v_this_begins a_this_read v_this_clauses a_this_ahead v_this_undoMany a_this_isKept a_this_kept v_this_fewestMany v_this_fewestSets v_this_fewestSet v_this_fewestMost a_this_aside a_this_seens v_this_seenMany) 95 [(1, .int x1), (2, .int x2), (3, .int x3), (4, .int x4), (5, .int x5), (6, .int x6), (7, .int x7), (8, .int x8), (9, .int x9)] [] := by
    intro k_81 hk_81 n
    induction n with
    | zero => intro x1 x2 x3 x4 x5 x6 x7 x8 x9 hf; exact nn_ hf
    | succ n ih => exact fun x1 x2 x3 x4 x5 x6 x7 x8 x9 hf => hs_95 k_81 hk_81 _ ih x1 x2 x3 x4 x5 x6 x7 x8 x9 hf
  have hs_81 : ∀ (k_81 : Int32 → Int32 → Int32 → Int32 → Int32 → Int32 → Int32 → Option (Int32)), (∀ (x1 : Int32) (x2 : Int32) (x3 : Int32) (x4 : Int32) (x5 : Int32) (x6 : Int32) (x7 : Int32), k_81 x1 x2 x3 x4 x5 x6 x7 = some res → Z (w_X9_frosts cyI cyZ cyW a_this a_this_told a_this_st a_this_text v_this_letters v_this_place v_this_token v_this_value v_this_begins a_this_read v_this_clauses a_this_ahead v_this_undoMany a_this_isKept a_this_kept v_this_fewestMany v_this_fewestSets v_this_fewestSet v_this_fewestMost a_this_aside a_this_seens v_this_seenMany) 81 [(1, .int x1), (2, .int x2), (3, .int x3), (4, .int x4), (5, .int x5), (6, .int x6), (7, .int x7)] []) → ∀ (x1 : Int32) (x2 : Int32) (x3 : Int32) (x4 : Int32) (x5 : Int32) (x6 : Int32) (x7 : Int32), f_X9_frosts_s81 k_81 x1 x2 x3 x4 x5 x6 x7 = some res → Z (w_X9_frosts cyI cyZ cyW a_this a_this_told a_this_st a_this_text v_this_letters v_this_place v_this_token v_this_value v_this_begins a_this_read v_this_clauses a_this_ahead v_this_undoMany a_this_isKept a_this_kept v_this_fewestMany v_this_fewestSets v_this_fewestSet v_this_fewestMost a_this_aside a_this_seens v_this_seenMany) 81 [(1, .int x1), (2, .int x2), (3, .int x3), (4, .int x4), (5, .int x5), (6, .int x6), (7, .int x7)] [] := by
    subst hZ
    intro k_81 hk_81 x1 x2 x3 x4 x5 x6 x7 hf
    refine r_iload C dX9_frosts_81 6 rfl ?_
    refine r_iconst C 1 dX9_frosts_83 (by decide) ?_
    refine r_iload_n C dX9_frosts_84 rfl 0 rfl ?_
    refine r_ishl C dX9_frosts_85 ?_
    refine r_icmp_ge C 156 dX9_frosts_86 (by decide) hf (fun hf => ?_) (fun hf => ?_)
    · refine r_iload C dX9_frosts_156 4 rfl ?_
      refine r_iload C dX9_frosts_158 5 rfl ?_
      obtain ⟨y9, hy10, hf⟩ := bd_some hf
      refine r_roS_i (As := [.int x5, .int x6]) (rest := []) C (c_X9_common l D cyI cyZ cyW x5 x6 y9 hy10) gX9_frosts_X9_common rfl hyS_X9_common ⟨rfl, rfl, (Nat.le_of_ble_eq_true rfl), (Nat.le_of_ble_eq_true rfl)⟩ rfl [] rfl rfl rfl (Nat.le_of_ble_eq_true rfl) ⟨Nat.zero_le _, Nat.zero_le _⟩ dX9_frosts_160 ?_
      refine r_istore (lv' := [(7, .int y9), (1, .int x1), (2, .int x2), (3, .int x3), (4, .int x4), (5, .int x5), (6, .int x6)]) C dX9_frosts_163 (by decide) rfl ?_
      refine r_iload C dX9_frosts_165 4 rfl ?_
      refine r_if_ne C 178 dX9_frosts_167 (by decide) hf (fun hf => ?_) (fun hf => ?_)
      · refine r_iload C dX9_frosts_178 6 rfl ?_
        refine r_iload C dX9_frosts_180 0 rfl ?_
        obtain ⟨hz11, hf⟩ := nz_some hf
        refine r_idiv C dX9_frosts_182 hz11 ?_
        rw [← Option.some.inj hf]
        exact r_iret C hr hlk dX9_frosts_183
      · refine r_iload C dX9_frosts_170 5 rfl ?_
        refine r_iload C dX9_frosts_172 0 rfl ?_
        obtain ⟨hz12, hf⟩ := nz_some hf
        refine r_idiv C dX9_frosts_174 hz12 ?_
        refine r_goto C 183 dX9_frosts_175 (by decide) ?_
        rw [← Option.some.inj hf]
        exact r_iret C hr hlk dX9_frosts_183
    · refine r_iconst C 1 dX9_frosts_89 (by decide) ?_
      refine r_istore (lv' := [(8, .int 1), (1, .int x1), (2, .int x2), (3, .int x3), (4, .int x4), (5, .int x5), (6, .int x6), (7, .int x7)]) C dX9_frosts_90 (by decide) rfl ?_
      refine r_iconst C 0 dX9_frosts_92 (by decide) ?_
      refine r_istore (lv' := [(9, .int 0), (8, .int 1), (1, .int x1), (2, .int x2), (3, .int x3), (4, .int x4), (5, .int x5), (6, .int x6), (7, .int x7)]) C dX9_frosts_93 (by decide) rfl ?_
      exact ST_lv [2, 3, 4, 5, 6, 7, 8, 1, 0] rfl (hb_95 k_81 hk_81 5000 x1 x2 x3 x4 x5 x6 x7 1 0 hf)
  have hb_81 : ∀ (n : Nat) (x1 : Int32) (x2 : Int32) (x3 : Int32) (x4 : Int32) (x5 : Int32) (x6 : Int32) (x7 : Int32), f_X9_frosts_b81 n x1 x2 x3 x4 x5 x6 x7 = some res → Z (w_X9_frosts cyI cyZ cyW a_this a_this_told a_this_st a_this_text v_this_letters v_this_place v_this_token v_this_value v_this_begins a_this_read v_this_clauses a_this_ahead v_this_undoMany a_this_isKept a_this_kept v_this_fewestMany v_this_fewestSets v_this_fewestSet v_this_fewestMost a_this_aside a_this_seens v_this_seenMany) 81 [(1, .int x1), (2, .int x2), (3, .int x3), (4, .int x4), (5, .int x5), (6, .int x6), (7, .int x7)] [] := by
    intro  n
    induction n with
    | zero => intro x1 x2 x3 x4 x5 x6 x7 hf; exact nn_ hf
    | succ n ih => exact fun x1 x2 x3 x4 x5 x6 x7 hf => hs_81 _ ih x1 x2 x3 x4 x5 x6 x7 hf
  have hs_59 : ∀ (k_59 : Int32 → Int32 → Int32 → Int32 → Int32 → Int32 → Int32 → Option (Int32)), (∀ (x1 : Int32) (x2 : Int32) (x3 : Int32) (x4 : Int32) (x5 : Int32) (x6 : Int32) (x7 : Int32), k_59 x1 x2 x3 x4 x5 x6 x7 = some res → Z (w_X9_frosts cyI cyZ cyW a_this a_this_told a_this_st a_this_text v_this_letters v_this_place v_this_token v_this_value v_this_begins a_this_read v_this_clauses a_this_ahead v_this_undoMany a_this_isKept a_this_kept v_this_fewestMany v_this_fewestSets v_this_fewestSet v_this_fewestMost a_this_aside a_this_seens v_this_seenMany) 59 [(1, .int x1), (2, .int x2), (3, .int x3), (4, .int x4), (5, .int x5), (6, .int x6), (7, .int x7)] []) → ∀ (x1 : Int32) (x2 : Int32) (x3 : Int32) (x4 : Int32) (x5 : Int32) (x6 : Int32) (x7 : Int32), f_X9_frosts_s59 k_59 x1 x2 x3 x4 x5 x6 x7 = some res → Z (w_X9_frosts cyI cyZ cyW a_this a_this_told a_this_st a_this_text v_this_letters v_this_place v_this_token v_this_value v_this_begins a_this_read v_this_clauses a_this_ahead v_this_undoMany a_this_isKept a_this_kept v_this_fewestMany v_this_fewestSets v_this_fewestSet v_this_fewestMost a_this_aside a_this_seens v_this_seenMany) 59 [(1, .int x1), (2, .int x2), (3, .int x3), (4, .int x4), (5, .int x5), (6, .int x6), (7, .int x7)] [] := by
    subst hZ
    intro k_59 hk_59 x1 x2 x3 x4 x5 x6 x7 hf
    refine r_iload C dX9_frosts_59 6 rfl ?_
    refine r_iload_n C dX9_frosts_61 rfl 0 rfl ?_
    refine r_icmp_ge C 78 dX9_frosts_62 (by decide) hf (fun hf => ?_) (fun hf => ?_)
    · refine r_iconst C 0 dX9_frosts_78 (by decide) ?_
      refine r_istore (lv' := [(7, .int 0), (1, .int x1), (2, .int x2), (3, .int x3), (4, .int x4), (5, .int x5), (6, .int x6)]) C dX9_frosts_79 (by decide) rfl ?_
      exact ST_lv [1, 2, 3, 4, 5, 6, 0] rfl (hb_81 5000 x1 x2 x3 x4 x5 x6 0 hf)
    · refine r_iload C dX9_frosts_65 5 rfl ?_
      refine r_bipush C 10 dX9_frosts_67 (by decide) ?_
      refine r_imul C dX9_frosts_69 ?_
      refine r_istore (lv' := [(6, .int (x6 * 10)), (1, .int x1), (2, .int x2), (3, .int x3), (4, .int x4), (5, .int x5), (7, .int x7)]) C dX9_frosts_70 (by decide) rfl ?_
      refine r_iinc (v := 1) (k := 6) (lv' := [(7, .int (x7 + 1)), (6, .int (x6 * 10)), (1, .int x1), (2, .int x2), (3, .int x3), (4, .int x4), (5, .int x5)]) C dX9_frosts_72 rfl (by decide) (by decide) rfl ?_
      refine r_goto C 59 dX9_frosts_75 (by decide) ?_
      exact ST_lv [2, 3, 4, 5, 6, 1, 0] rfl (hk_59 x1 x2 x3 x4 x5 (x6 * 10) (x7 + 1) hf)
  have hb_59 : ∀ (n : Nat) (x1 : Int32) (x2 : Int32) (x3 : Int32) (x4 : Int32) (x5 : Int32) (x6 : Int32) (x7 : Int32), f_X9_frosts_b59 n x1 x2 x3 x4 x5 x6 x7 = some res → Z (w_X9_frosts cyI cyZ cyW a_this a_this_told a_this_st a_this_text v_this_letters v_this_place v_this_token v_this_value v_this_begins a_this_read v_this_clauses a_this_ahead v_this_undoMany a_this_isKept a_this_kept v_this_fewestMany v_this_fewestSets v_this_fewestSet v_this_fewestMost a_this_aside a_this_seens v_this_seenMany) 59 [(1, .int x1), (2, .int x2), (3, .int x3), (4, .int x4), (5, .int x5), (6, .int x6), (7, .int x7)] [] := by
    intro  n
    induction n with
    | zero => intro x1 x2 x3 x4 x5 x6 x7 hf; exact nn_ hf
    | succ n ih => exact fun x1 x2 x3 x4 x5 x6 x7 hf => hs_59 _ ih x1 x2 x3 x4 x5 x6 x7 hf
  subst hZ
  refine r_iload_n C dX9_frosts_0 rfl 1 rfl ?_
  refine r_i2l C dX9_frosts_1 ?_
  refine r_lconst C 0 dX9_frosts_2 (by decide) ?_
  refine r_ldc2 C lk_X9_frosts_1 dX9_frosts_3 ?_
  obtain ⟨y1, hy2, hf⟩ := bd_some hf
  refine r_roS_i (As := [.long (Int32.toInt64 x1), .long 0, .long 6]) (rest := []) C (c_X9_in l D cyI cyZ cyW (Int32.toInt64 x1) 0 6 y1 hy2) gX9_frosts_X9_in rfl hyS_X9_in ⟨rfl, rfl, (Nat.le_of_ble_eq_true rfl), (Nat.le_of_ble_eq_true rfl)⟩ rfl [] rfl rfl rfl (Nat.le_of_ble_eq_true rfl) ⟨Nat.zero_le _, Nat.zero_le _⟩ dX9_frosts_6 ?_
  refine r_if_eq C 47 dX9_frosts_9 (by decide) hf (fun hf => ?_) (fun hf => ?_)
  · refine r_bipush C (-3) dX9_frosts_47 (by decide) ?_
    rw [← Option.some.inj hf]
    exact r_iret C hr hlk dX9_frosts_49
  · refine r_iload_n C dX9_frosts_12 rfl 2 rfl ?_
    refine r_i2l C dX9_frosts_13 ?_
    refine r_lconst C 0 dX9_frosts_14 (by decide) ?_
    refine r_ldc2 C lk_X9_frosts_1 dX9_frosts_15 ?_
    obtain ⟨y3, hy4, hf⟩ := bd_some hf
    refine r_roS_i (As := [.long (Int32.toInt64 x2), .long 0, .long 6]) (rest := []) C (c_X9_in l D cyI cyZ cyW (Int32.toInt64 x2) 0 6 y3 hy4) gX9_frosts_X9_in rfl hyS_X9_in ⟨rfl, rfl, (Nat.le_of_ble_eq_true rfl), (Nat.le_of_ble_eq_true rfl)⟩ rfl [] rfl rfl rfl (Nat.le_of_ble_eq_true rfl) ⟨Nat.zero_le _, Nat.zero_le _⟩ dX9_frosts_18 ?_
    refine r_if_eq C 47 dX9_frosts_21 (by decide) hf (fun hf => ?_) (fun hf => ?_)
    · refine r_bipush C (-3) dX9_frosts_47 (by decide) ?_
      rw [← Option.some.inj hf]
      exact r_iret C hr hlk dX9_frosts_49
    · refine r_iload_n C dX9_frosts_24 rfl 3 rfl ?_
      refine r_i2l C dX9_frosts_25 ?_
      refine r_lconst C 0 dX9_frosts_26 (by decide) ?_
      refine r_ldc2 C lk_X9_frosts_2 dX9_frosts_27 ?_
      obtain ⟨y5, hy6, hf⟩ := bd_some hf
      refine r_roS_i (As := [.long (Int32.toInt64 x3), .long 0, .long 10]) (rest := []) C (c_X9_in l D cyI cyZ cyW (Int32.toInt64 x3) 0 10 y5 hy6) gX9_frosts_X9_in rfl hyS_X9_in ⟨rfl, rfl, (Nat.le_of_ble_eq_true rfl), (Nat.le_of_ble_eq_true rfl)⟩ rfl [] rfl rfl rfl (Nat.le_of_ble_eq_true rfl) ⟨Nat.zero_le _, Nat.zero_le _⟩ dX9_frosts_30 ?_
      refine r_if_eq C 47 dX9_frosts_33 (by decide) hf (fun hf => ?_) (fun hf => ?_)
      · refine r_bipush C (-3) dX9_frosts_47 (by decide) ?_
        rw [← Option.some.inj hf]
        exact r_iret C hr hlk dX9_frosts_49
      · refine r_iload C dX9_frosts_36 4 rfl ?_
        refine r_i2l C dX9_frosts_38 ?_
        refine r_lconst C 0 dX9_frosts_39 (by decide) ?_
        refine r_lconst C 1 dX9_frosts_40 (by decide) ?_
        obtain ⟨y7, hy8, hf⟩ := bd_some hf
        refine r_roS_i (As := [.long (Int32.toInt64 x4), .long 0, .long 1]) (rest := []) C (c_X9_in l D cyI cyZ cyW (Int32.toInt64 x4) 0 1 y7 hy8) gX9_frosts_X9_in rfl hyS_X9_in ⟨rfl, rfl, (Nat.le_of_ble_eq_true rfl), (Nat.le_of_ble_eq_true rfl)⟩ rfl [] rfl rfl rfl (Nat.le_of_ble_eq_true rfl) ⟨Nat.zero_le _, Nat.zero_le _⟩ dX9_frosts_41 ?_
        refine r_if_ne C 50 dX9_frosts_44 (by decide) hf (fun hf => ?_) (fun hf => ?_)
        · refine r_iconst C 0 dX9_frosts_50 (by decide) ?_
          refine r_istore (lv' := [(5, .int 0), (0, .ref a_this), (1, .int x1), (2, .int x2), (3, .int x3), (4, .int x4)]) C dX9_frosts_51 (by decide) rfl ?_
          refine r_iconst C 1 dX9_frosts_53 (by decide) ?_
          refine r_istore (lv' := [(6, .int 1), (5, .int 0), (0, .ref a_this), (1, .int x1), (2, .int x2), (3, .int x3), (4, .int x4)]) C dX9_frosts_54 (by decide) rfl ?_
          refine r_iconst C 0 dX9_frosts_56 (by decide) ?_
          refine r_istore (lv' := [(7, .int 0), (6, .int 1), (5, .int 0), (0, .ref a_this), (1, .int x1), (2, .int x2), (3, .int x3), (4, .int x4)]) C dX9_frosts_57 (by decide) rfl ?_
          exact ST_lv [4, 5, 6, 7, 2, 1, 0] rfl (hb_59 5000 x1 x2 x3 x4 0 1 0 hf)
        · refine r_bipush C (-3) dX9_frosts_47 (by decide) ?_
          rw [← Option.some.inj hf]
          exact r_iret C hr hlk dX9_frosts_49

theorem lk_X9_count_1 : Cond.fieldLink RX9 7 "ParishCoatModel" "told" "[I" ∈ wsX9_count := List.mem_of_getElem? (i := 1) rfl
theorem lk_X9_count_2 : Cond.fieldLink RX9 13 "ParishCoatModel" "st" "[I" ∈ wsX9_count := List.mem_of_getElem? (i := 2) rfl
theorem lk_X9_count_3 : Cond.fieldLink RX9 111 "ParishCoatModel" "seenMany" "I" ∈ wsX9_count := List.mem_of_getElem? (i := 3) rfl
theorem lk_X9_count_4 : Cond.fieldLink RX9 114 "ParishCoatModel" "undoMany" "I" ∈ wsX9_count := List.mem_of_getElem? (i := 4) rfl
theorem lk_X9_count_5 : Cond.fieldLink RX9 44 "ParishCoatModel" "letters" "I" ∈ wsX9_count := List.mem_of_getElem? (i := 5) rfl
theorem in_X9_count_X9 : ∀ w ∈ u_ws RX9 TX9 21, w ∈ wsX9_count := fun _ h => List.mem_cons_of_mem _ (List.mem_append_right _ h)
def f_X9_count (v_this_letters : Int32) (v_this_undoMany : Int32) (v_this_seenMany : Int32) (v_this_told : Nat → Int32) (v_this_st : Nat → Int32) (x1 : Int32) : Option (Int32) := if x1 = 0 then (some ((v_this_told 0))) else (if x1 = 1 then (some ((v_this_st 14))) else (if x1 = 2 then (some ((v_this_told 1))) else (if x1 = 3 then ((f_X9_coldNow v_this_told v_this_st).bind fun y4 => some (y4)) else (if x1 = 4 then (some ((v_this_told 2))) else (if x1 = 5 then ((f_X9_frozen v_this_told v_this_st).bind fun y8 => some (y8)) else (if x1 = 6 then ((f_X9_healthOfAll v_this_told v_this_st).bind fun y11 => some (y11)) else (if x1 = 7 then (some (v_this_seenMany)) else (if x1 = 8 then (some (v_this_undoMany)) else (if x1 = 9 then (some (v_this_letters)) else (some ((-3))))))))))))
def w_X9_count (cyI cyZ cyW : ClassId) (a_this : Nat) (a_this_told : Nat) (a_this_st : Nat) (a_this_text : Nat) (v_this_letters : Int32) (v_this_place : Int32) (v_this_token : Int32) (v_this_value : Int32) (v_this_begins : Int32) (a_this_read : Nat) (v_this_clauses : Int32) (a_this_ahead : Nat) (v_this_undoMany : Int32) (a_this_isKept : Nat) (a_this_kept : Nat) (v_this_fewestMany : Int32) (v_this_fewestSets : Int32) (v_this_fewestSet : Int32) (v_this_fewestMost : Int32) (a_this_aside : Nat) (a_this_seens : Nat) (v_this_seenMany : Int32) (v_this_told : Nat → Int32) (v_this_st : Nat → Int32) : va_W := [(a_this, .inr (9, [.ref a_this_told, .ref a_this_st, .ref a_this_text, .int v_this_letters, .int v_this_place, .int v_this_token, .int v_this_value, .int v_this_begins, .ref a_this_read, .int v_this_clauses, .ref a_this_ahead, .int v_this_undoMany, .ref a_this_isKept, .ref a_this_kept, .int v_this_fewestMany, .int v_this_fewestSets, .int v_this_fewestSet, .int v_this_fewestMost, .ref a_this_aside, .ref a_this_seens, .int v_this_seenMany])), (a_this_told, .inl (cyI, 37, .inl v_this_told)), (a_this_st, .inl (cyI, 15, .inl v_this_st))]
set_option maxHeartbeats 4000000 in
set_option maxRecDepth 100000 in
theorem c_X9_count (l : Launch) (D : va_G) (cyI cyZ cyW : ClassId) (a_this : Nat) (a_this_told : Nat) (a_this_st : Nat) (a_this_text : Nat) (v_this_letters : Int32) (v_this_place : Int32) (v_this_token : Int32) (v_this_value : Int32) (v_this_begins : Int32) (a_this_read : Nat) (v_this_clauses : Int32) (a_this_ahead : Nat) (v_this_undoMany : Int32) (a_this_isKept : Nat) (a_this_kept : Nat) (v_this_fewestMany : Int32) (v_this_fewestSets : Int32) (v_this_fewestSet : Int32) (v_this_fewestMost : Int32) (a_this_aside : Nat) (a_this_seens : Nat) (v_this_seenMany : Int32) (v_this_told : Nat → Int32) (v_this_st : Nat → Int32) (x1 : Int32) (res : Int32) (hf : f_X9_count v_this_letters v_this_undoMany v_this_seenMany v_this_told v_this_st x1 = some res) : ∀ sz, Met l yX9_count wsX9_count { frames := 2, cells := 0, slots := 0, locals := 43 } (PCx D (tyG cyI cyZ cyW) [.ref a_this, .int x1] (w_X9_count cyI cyZ cyW a_this a_this_told a_this_st a_this_text v_this_letters v_this_place v_this_token v_this_value v_this_begins a_this_read v_this_clauses a_this_ahead v_this_undoMany a_this_isKept a_this_kept v_this_fewestMany v_this_fewestSets v_this_fewestSet v_this_fewestMost a_this_aside a_this_seens v_this_seenMany v_this_told v_this_st) sz) (QI D (tyG cyI cyZ cyW) (w_X9_count cyI cyZ cyW a_this a_this_told a_this_st a_this_text v_this_letters v_this_place v_this_token v_this_value v_this_begins a_this_read v_this_clauses a_this_ahead v_this_undoMany a_this_isKept a_this_kept v_this_fewestMany v_this_fewestSets v_this_fewestSet v_this_fewestMost a_this_aside a_this_seens v_this_seenMany v_this_told v_this_st) sz res (w_X9_count cyI cyZ cyW a_this a_this_told a_this_st a_this_text v_this_letters v_this_place v_this_token v_this_value v_this_begins a_this_read v_this_clauses a_this_ahead v_this_undoMany a_this_isKept a_this_kept v_this_fewestMany v_this_fewestSets v_this_fewestSet v_this_fewestMost a_this_aside a_this_seens v_this_seenMany v_this_told v_this_st)) 0 0 (va_A (w_X9_count cyI cyZ cyW a_this a_this_told a_this_st a_this_text v_this_letters v_this_place v_this_token v_this_value v_this_begins a_this_read v_this_clauses a_this_ahead v_this_undoMany a_this_isKept a_this_kept v_this_fewestMany v_this_fewestSets v_this_fewestSet v_this_fewestMost a_this_aside a_this_seens v_this_seenMany v_this_told v_this_st) sz) := by
  intro sz
  refine met_of (cc := cX9_count) (maxL := 2) (ret := (some .int)) (lv0 := [(0, .ref a_this), (1, .int x1)]) (by decide) rfl ⟨(Nat.le_of_ble_eq_true rfl), rfl⟩ ?_
  intro p e s m below meth c C hr hlk hnm hsz
  subst hsz
  have C : CX p s m _ c 2 cX9_count RX9 wsX9_count D (tyG cyI cyZ cyW) _ := C
  refine r_iload_n C dX9_count_0 rfl 1 rfl ?_
  rcases sw_ hf with ⟨hc1, hf⟩ | ⟨hc1, hf⟩
  · refine r_tableIn C 56 dX9_count_1 (by rw [hc1]; decide) (by rw [hc1]; decide) (by rw [hc1]; rfl) (by decide) ?_
    refine r_aload_n C dX9_count_56 rfl 0 rfl ?_
    refine r_get C in_X9_count_X9 0 rfl rfl 0 (by decide) lk_X9_count_1 rfl rfl dX9_count_57 ?_
    refine r_iconst C 0 dX9_count_60 (by decide) ?_
    refine r_iald_k C 0 1 0 rfl rfl (kk_ 0 37 (by decide) (by decide)) dX9_count_61 ?_
    rw [← Option.some.inj hf]
    exact r_iret C hr hlk dX9_count_62
  rcases sw_ hf with ⟨hc2, hf⟩ | ⟨hc2, hf⟩
  · refine r_tableIn C 63 dX9_count_1 (by rw [hc2]; decide) (by rw [hc2]; decide) (by rw [hc2]; rfl) (by decide) ?_
    refine r_aload_n C dX9_count_63 rfl 0 rfl ?_
    refine r_get C in_X9_count_X9 0 rfl rfl 1 (by decide) lk_X9_count_2 rfl rfl dX9_count_64 ?_
    refine r_bipush C 14 dX9_count_67 (by decide) ?_
    refine r_iald_k C 14 2 0 rfl rfl (kk_ 14 15 (by decide) (by decide)) dX9_count_69 ?_
    rw [← Option.some.inj hf]
    exact r_iret C hr hlk dX9_count_70
  rcases sw_ hf with ⟨hc3, hf⟩ | ⟨hc3, hf⟩
  · refine r_tableIn C 71 dX9_count_1 (by rw [hc3]; decide) (by rw [hc3]; decide) (by rw [hc3]; rfl) (by decide) ?_
    refine r_aload_n C dX9_count_71 rfl 0 rfl ?_
    refine r_get C in_X9_count_X9 0 rfl rfl 0 (by decide) lk_X9_count_1 rfl rfl dX9_count_72 ?_
    refine r_iconst C 1 dX9_count_75 (by decide) ?_
    refine r_iald_k C 1 1 0 rfl rfl (kk_ 1 37 (by decide) (by decide)) dX9_count_76 ?_
    rw [← Option.some.inj hf]
    exact r_iret C hr hlk dX9_count_77
  rcases sw_ hf with ⟨hc6, hf⟩ | ⟨hc6, hf⟩
  · refine r_tableIn C 78 dX9_count_1 (by rw [hc6]; decide) (by rw [hc6]; decide) (by rw [hc6]; rfl) (by decide) ?_
    refine r_aload_n C dX9_count_78 rfl 0 rfl ?_
    obtain ⟨y4, hy5, hf⟩ := bd_some hf
    refine r_roV_i (As := []) (rest := []) C (c_X9_coldNow l D cyI cyZ cyW a_this a_this_told a_this_st a_this_text v_this_letters v_this_place v_this_token v_this_value v_this_begins a_this_read v_this_clauses a_this_ahead v_this_undoMany a_this_isKept a_this_kept v_this_fewestMany v_this_fewestSets v_this_fewestSet v_this_fewestMost a_this_aside a_this_seens v_this_seenMany v_this_told v_this_st y4 hy5) gX9_count_X9_coldNow rfl hyV_X9_coldNow ⟨rfl, rfl, (Nat.le_of_ble_eq_true rfl), (Nat.le_of_ble_eq_true rfl)⟩ rfl 0 rfl rfl [0, 1, 2] rfl rfl rfl (Nat.le_of_ble_eq_true rfl) ⟨Nat.zero_le _, Nat.zero_le _⟩ dX9_count_79 ?_
    rw [← Option.some.inj hf]
    exact r_iret C hr hlk dX9_count_82
  rcases sw_ hf with ⟨hc7, hf⟩ | ⟨hc7, hf⟩
  · refine r_tableIn C 83 dX9_count_1 (by rw [hc7]; decide) (by rw [hc7]; decide) (by rw [hc7]; rfl) (by decide) ?_
    refine r_aload_n C dX9_count_83 rfl 0 rfl ?_
    refine r_get C in_X9_count_X9 0 rfl rfl 0 (by decide) lk_X9_count_1 rfl rfl dX9_count_84 ?_
    refine r_iconst C 2 dX9_count_87 (by decide) ?_
    refine r_iald_k C 2 1 0 rfl rfl (kk_ 2 37 (by decide) (by decide)) dX9_count_88 ?_
    rw [← Option.some.inj hf]
    exact r_iret C hr hlk dX9_count_89
  rcases sw_ hf with ⟨hc10, hf⟩ | ⟨hc10, hf⟩
  · refine r_tableIn C 90 dX9_count_1 (by rw [hc10]; decide) (by rw [hc10]; decide) (by rw [hc10]; rfl) (by decide) ?_
    refine r_aload_n C dX9_count_90 rfl 0 rfl ?_
    obtain ⟨y8, hy9, hf⟩ := bd_some hf
    refine r_roV_i (As := []) (rest := []) C (c_X9_frozen l D cyI cyZ cyW a_this a_this_told a_this_st a_this_text v_this_letters v_this_place v_this_token v_this_value v_this_begins a_this_read v_this_clauses a_this_ahead v_this_undoMany a_this_isKept a_this_kept v_this_fewestMany v_this_fewestSets v_this_fewestSet v_this_fewestMost a_this_aside a_this_seens v_this_seenMany v_this_told v_this_st y8 hy9) gX9_count_X9_frozen rfl hyV_X9_frozen ⟨rfl, rfl, (Nat.le_of_ble_eq_true rfl), (Nat.le_of_ble_eq_true rfl)⟩ rfl 0 rfl rfl [0, 1, 2] rfl rfl rfl (Nat.le_of_ble_eq_true rfl) ⟨Nat.zero_le _, Nat.zero_le _⟩ dX9_count_91 ?_
    rw [← Option.some.inj hf]
    exact r_iret C hr hlk dX9_count_94
  rcases sw_ hf with ⟨hc13, hf⟩ | ⟨hc13, hf⟩
  · refine r_tableIn C 95 dX9_count_1 (by rw [hc13]; decide) (by rw [hc13]; decide) (by rw [hc13]; rfl) (by decide) ?_
    refine r_aload_n C dX9_count_95 rfl 0 rfl ?_
    obtain ⟨y11, hy12, hf⟩ := bd_some hf
    refine r_roV_i (As := []) (rest := []) C (c_X9_healthOfAll l D cyI cyZ cyW a_this a_this_told a_this_st a_this_text v_this_letters v_this_place v_this_token v_this_value v_this_begins a_this_read v_this_clauses a_this_ahead v_this_undoMany a_this_isKept a_this_kept v_this_fewestMany v_this_fewestSets v_this_fewestSet v_this_fewestMost a_this_aside a_this_seens v_this_seenMany v_this_told v_this_st y11 hy12) gX9_count_X9_healthOfAll rfl hyV_X9_healthOfAll ⟨rfl, rfl, (Nat.le_of_ble_eq_true rfl), (Nat.le_of_ble_eq_true rfl)⟩ rfl 0 rfl rfl [0, 1, 2] rfl rfl rfl (Nat.le_of_ble_eq_true rfl) ⟨Nat.zero_le _, Nat.zero_le _⟩ dX9_count_96 ?_
    rw [← Option.some.inj hf]
    exact r_iret C hr hlk dX9_count_99
  rcases sw_ hf with ⟨hc14, hf⟩ | ⟨hc14, hf⟩
  · refine r_tableIn C 100 dX9_count_1 (by rw [hc14]; decide) (by rw [hc14]; decide) (by rw [hc14]; rfl) (by decide) ?_
    refine r_aload_n C dX9_count_100 rfl 0 rfl ?_
    refine r_get C in_X9_count_X9 0 rfl rfl 20 (by decide) lk_X9_count_3 rfl rfl dX9_count_101 ?_
    rw [← Option.some.inj hf]
    exact r_iret C hr hlk dX9_count_104
  rcases sw_ hf with ⟨hc15, hf⟩ | ⟨hc15, hf⟩
  · refine r_tableIn C 105 dX9_count_1 (by rw [hc15]; decide) (by rw [hc15]; decide) (by rw [hc15]; rfl) (by decide) ?_
    refine r_aload_n C dX9_count_105 rfl 0 rfl ?_
    refine r_get C in_X9_count_X9 0 rfl rfl 11 (by decide) lk_X9_count_4 rfl rfl dX9_count_106 ?_
    rw [← Option.some.inj hf]
    exact r_iret C hr hlk dX9_count_109
  rcases sw_ hf with ⟨hc16, hf⟩ | ⟨hc16, hf⟩
  · refine r_tableIn C 110 dX9_count_1 (by rw [hc16]; decide) (by rw [hc16]; decide) (by rw [hc16]; rfl) (by decide) ?_
    refine r_aload_n C dX9_count_110 rfl 0 rfl ?_
    refine r_get C in_X9_count_X9 0 rfl rfl 3 (by decide) lk_X9_count_5 rfl rfl dX9_count_111 ?_
    rw [← Option.some.inj hf]
    exact r_iret C hr hlk dX9_count_114
  have hc1 := ne_toInt hc1 (z := 0) (by decide)
  have hc2 := ne_toInt hc2 (z := 1) (by decide)
  have hc3 := ne_toInt hc3 (z := 2) (by decide)
  have hc6 := ne_toInt hc6 (z := 3) (by decide)
  have hc7 := ne_toInt hc7 (z := 4) (by decide)
  have hc10 := ne_toInt hc10 (z := 5) (by decide)
  have hc13 := ne_toInt hc13 (z := 6) (by decide)
  have hc14 := ne_toInt hc14 (z := 7) (by decide)
  have hc15 := ne_toInt hc15 (z := 8) (by decide)
  have hc16 := ne_toInt hc16 (z := 9) (by decide)
  refine r_tableOut C 115 dX9_count_1 (by omega) (by decide) ?_
  refine r_bipush C (-3) dX9_count_115 (by decide) ?_
  rw [← Option.some.inj hf]
  exact r_iret C hr hlk dX9_count_117
