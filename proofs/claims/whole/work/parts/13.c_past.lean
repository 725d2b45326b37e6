theorem lk_X1_forgetAll_1 : Cond.fieldLink RX1 25 "ParishCoat$Past" "size" "I" ∈ wsX1_forgetAll := List.mem_of_getElem? (i := 1) rfl
theorem lk_X1_forgetAll_2 : Cond.fieldLink RX1 20 "ParishCoat$Past" "isKept" "[Z" ∈ wsX1_forgetAll := List.mem_of_getElem? (i := 2) rfl
theorem in_X1_forgetAll_X1 : ∀ w ∈ u_ws RX1 TX1 5, w ∈ wsX1_forgetAll := fun _ h => List.mem_cons_of_mem _ (List.mem_append_right _ h)
def f_X1_forgetAll_s7 (k_7 : Int32 → Int32 → (Nat → Int32) → Option (Int32 × (Nat → Int32))) (x1 : Int32) (v_this_size : Int32) (v_this_isKept : Nat → Int32) : Option (Int32 × (Nat → Int32)) := if 2 ≤ x1 then (some (v_this_size, v_this_isKept)) else (gd_ x1 2 (k_7 (x1 + 1) v_this_size (upd v_this_isKept (Int32.toNatClampNeg x1) (vp_nar .boolean 0))))
def f_X1_forgetAll_b7 (n : Nat) : Int32 → Int32 → (Nat → Int32) → Option (Int32 × (Nat → Int32)) := it_ (f_X1_forgetAll_s7 ) (fun _ _ _ => none) n
def f_X1_forgetAll (v_this_size : Int32) (v_this_isKept : Nat → Int32) : Option (Int32 × (Nat → Int32)) := f_X1_forgetAll_b7 5000 0 0 v_this_isKept
def w_X1_forgetAll (cyI cyZ cyW : ClassId) (a_this : Nat) (a_this_undone : Nat) (v_this_newest : Int32) (v_this_size : Int32) (a_this_kept : Nat) (a_this_isKept : Nat) (v_this_isKept : Nat → Int32) : va_W := [(a_this, .inr (1, [.ref a_this_undone, .int v_this_newest, .int v_this_size, .ref a_this_kept, .ref a_this_isKept])), (a_this_isKept, .inl (cyZ, 2, .inl v_this_isKept))]
set_option maxHeartbeats 4000000 in
set_option maxRecDepth 100000 in
theorem c_X1_forgetAll (l : Launch) (D : va_G) (cyI cyZ cyW : ClassId) (a_this : Nat) (a_this_undone : Nat) (v_this_newest : Int32) (v_this_size : Int32) (a_this_kept : Nat) (a_this_isKept : Nat) (v_this_isKept : Nat → Int32) (res : Int32 × (Nat → Int32)) (hf : f_X1_forgetAll v_this_size v_this_isKept = some res) : ∀ sz, Met l yX1_forgetAll wsX1_forgetAll { frames := 0, cells := 0, slots := 0, locals := 0 } (PCx D (tyG cyI cyZ cyW) [.ref a_this] (w_X1_forgetAll cyI cyZ cyW a_this a_this_undone v_this_newest v_this_size a_this_kept a_this_isKept v_this_isKept) sz) (QV D (tyG cyI cyZ cyW) (w_X1_forgetAll cyI cyZ cyW a_this a_this_undone v_this_newest v_this_size a_this_kept a_this_isKept v_this_isKept) sz (w_X1_forgetAll cyI cyZ cyW a_this a_this_undone v_this_newest res.1 a_this_kept a_this_isKept res.2)) 0 0 (va_A (w_X1_forgetAll cyI cyZ cyW a_this a_this_undone v_this_newest v_this_size a_this_kept a_this_isKept v_this_isKept) sz) := by
  intro sz
  refine met_of (cc := cX1_forgetAll) (maxL := 2) (ret := none) (lv0 := [(0, .ref a_this)]) (by decide) rfl ⟨(Nat.le_of_ble_eq_true rfl), rfl⟩ ?_
  intro p e s m below meth c C hr hlk hnm hsz
  subst hsz
  have C : CX p s m _ c 2 cX1_forgetAll RX1 wsX1_forgetAll D (tyG cyI cyZ cyW) _ := C
  obtain ⟨Z, hZ⟩ : ∃ Z : va_W → Nat → LV → List Value → Prop, Z = ST p l e { frames := 0, cells := 0, slots := 0, locals := 0 } s m [.ref a_this].toArray below meth c 2 D (va_A (w_X1_forgetAll cyI cyZ cyW a_this a_this_undone v_this_newest v_this_size a_this_kept a_this_isKept v_this_isKept) s.heap.size) (MQ below (QV D (tyG cyI cyZ cyW) (w_X1_forgetAll cyI cyZ cyW a_this a_this_undone v_this_newest v_this_size a_this_kept a_this_isKept v_this_isKept) s.heap.size (w_X1_forgetAll cyI cyZ cyW a_this a_this_undone v_this_newest res.1 a_this_kept a_this_isKept res.2)) [.ref a_this].toArray s 0 0 (va_A (w_X1_forgetAll cyI cyZ cyW a_this a_this_undone v_this_newest v_this_size a_this_kept a_this_isKept v_this_isKept) s.heap.size)) 0 0 := ⟨_, rfl⟩
  have hs_7 : ∀ (k_7 : Int32 → Int32 → (Nat → Int32) → Option (Int32 × (Nat → Int32))), (∀ (x1 : Int32) (v_this_size : Int32) (v_this_isKept : Nat → Int32), k_7 x1 v_this_size v_this_isKept = some res → Z (w_X1_forgetAll cyI cyZ cyW a_this a_this_undone v_this_newest v_this_size a_this_kept a_this_isKept v_this_isKept) 7 [(0, .ref a_this), (1, .int x1)] []) → ∀ (x1 : Int32) (v_this_size : Int32) (v_this_isKept : Nat → Int32), f_X1_forgetAll_s7 k_7 x1 v_this_size v_this_isKept = some res → Z (w_X1_forgetAll cyI cyZ cyW a_this a_this_undone v_this_newest v_this_size a_this_kept a_this_isKept v_this_isKept) 7 [(0, .ref a_this), (1, .int x1)] [] := by
    subst hZ
    intro k_7 hk_7 x1 v_this_size v_this_isKept hf
    refine r_iload_n C dX1_forgetAll_7 rfl 1 rfl ?_
    refine r_iconst C 2 dX1_forgetAll_8 (by decide) ?_
    refine r_icmp_ge C 25 dX1_forgetAll_9 (by decide) hf (fun hf => ?_) (fun hf => ?_)
    · rw [← Option.some.inj hf]
      exact r_vret C hr hlk dX1_forgetAll_25
    · refine r_aload_n C dX1_forgetAll_12 rfl 0 rfl ?_
      refine r_get C in_X1_forgetAll_X1 0 rfl rfl 4 (by decide) lk_X1_forgetAll_2 rfl rfl dX1_forgetAll_13 ?_
      refine r_iload_n C dX1_forgetAll_16 rfl 1 rfl ?_
      refine r_iconst C 0 dX1_forgetAll_17 (by decide) ?_
      obtain ⟨hi1, hf⟩ := gd_some hf
      refine r_zast (ws' := (w_X1_forgetAll cyI cyZ cyW a_this a_this_undone v_this_newest v_this_size a_this_kept a_this_isKept (upd v_this_isKept (Int32.toNatClampNeg x1) (vp_nar .boolean 0)))) C 1 1 rfl rfl hi1 rfl dX1_forgetAll_18 ?_
      refine r_iinc (v := 1) (k := 1) (lv' := [(1, .int (x1 + 1)), (0, .ref a_this)]) C dX1_forgetAll_19 rfl (by decide) (by decide) rfl ?_
      refine r_goto C 7 dX1_forgetAll_22 (by decide) ?_
      exact ST_lv [1, 0] rfl (hk_7 (x1 + 1) v_this_size (upd v_this_isKept (Int32.toNatClampNeg x1) (vp_nar .boolean 0)) hf)
  have hb_7 : ∀ (n : Nat) (x1 : Int32) (v_this_size : Int32) (v_this_isKept : Nat → Int32), f_X1_forgetAll_b7 n x1 v_this_size v_this_isKept = some res → Z (w_X1_forgetAll cyI cyZ cyW a_this a_this_undone v_this_newest v_this_size a_this_kept a_this_isKept v_this_isKept) 7 [(0, .ref a_this), (1, .int x1)] [] := by
    intro  n
    induction n with
    | zero => intro x1 v_this_size v_this_isKept hf; exact nn_ hf
    | succ n ih => exact fun x1 v_this_size v_this_isKept hf => hs_7 _ ih x1 v_this_size v_this_isKept hf
  subst hZ
  refine r_aload_n C dX1_forgetAll_0 rfl 0 rfl ?_
  refine r_iconst C 0 dX1_forgetAll_1 (by decide) ?_
  refine r_put (ws' := (w_X1_forgetAll cyI cyZ cyW a_this a_this_undone v_this_newest 0 a_this_kept a_this_isKept v_this_isKept)) C in_X1_forgetAll_X1 tyX1 tyX1_ok nmX1 0 rfl rfl 2 (by decide) lk_X1_forgetAll_1 rfl rfl rfl rfl (Nat.le_of_ble_eq_true rfl) rfl dX1_forgetAll_2 ?_
  refine r_iconst C 0 dX1_forgetAll_5 (by decide) ?_
  refine r_istore_n (lv' := [(1, .int 0), (0, .ref a_this)]) C dX1_forgetAll_6 rfl (by decide) rfl ?_
  exact ST_lv [1, 0] rfl (hb_7 5000 0 0 v_this_isKept hf)

theorem lk_X1_remember_1 : Cond.fieldLink RX1 29 "ParishCoat$Past" "newest" "I" ∈ wsX1_remember := List.mem_of_getElem? (i := 1) rfl
theorem lk_X1_remember_2 : Cond.fieldLink RX1 11 "ParishCoat$Past" "undone" "[LParishCoat$Winter;" ∈ wsX1_remember := List.mem_of_getElem? (i := 2) rfl
theorem lk_X1_remember_3 : Cond.fieldLink RX1 25 "ParishCoat$Past" "size" "I" ∈ wsX1_remember := List.mem_of_getElem? (i := 3) rfl
theorem lk_X1_remember_4 : Cond.methodLink RX1 36 Lib.Math.min.name ∈ wsX1_remember := List.mem_of_getElem? (i := 4) rfl
theorem lk_X1_remember_5 : Cond.static Lib.Math.min.name ∈ wsX1_remember := List.mem_of_getElem? (i := 5) rfl
theorem lk_X1_remember_6 : Cond.initialized "java/lang/Math" ∈ wsX1_remember := List.mem_of_getElem? (i := 6) rfl
theorem lk_X1_remember_7 : Cond.code Lib.Math.min.name Lib.Math.min.code 2 (some .int) ∈ wsX1_remember := List.mem_of_getElem? (i := 7) rfl
theorem in_X1_remember_X1 : ∀ w ∈ u_ws RX1 TX1 5, w ∈ wsX1_remember := fun _ h => List.mem_cons_of_mem _ (List.mem_append_left _ (List.mem_append_right _ h))
theorem hyV_X7_copyFrom : yX7_copyFrom.cls = RX7 ∧ yX7_copyFrom.cls ≠ "java/lang/invoke/MethodHandle" ∧ yX7_copyFrom.cls ≠ "java/lang/invoke/VarHandle" ∧ (parseMethodDescriptor yX7_copyFrom.desc).map (fun d => d.parameters.length) = some 1 := by decide +kernel
theorem hyS_X7_copyFrom : yX7_copyFrom.cls ≠ "java/lang/invoke/MethodHandle" ∧ yX7_copyFrom.cls ≠ "java/lang/invoke/VarHandle" ∧ (parseMethodDescriptor yX7_copyFrom.desc).map (fun d => d.parameters.length) = some 1 := by decide +kernel
def f_X1_remember (v_this_newest : Int32) (v_this_size : Int32) (v_p0_date : Int32) (v_p0_frozen : Int32) (v_this_undone_F_date : Nat → Int32) (v_this_undone_F_frozen : Nat → Int32) (v_p0_healths : Nat → Int32) (v_this_undone_F_healths : Nat → Nat → Int32) (v_p0_favourers : Nat → Int32) (v_this_undone_F_favourers : Nat → Nat → Int32) : Option (Int32 × Int32 × (Nat → Int32) × (Nat → Int32) × (Nat → Nat → Int32) × (Nat → Nat → Int32)) := gdx_ ((v_this_newest + 1) - (v_this_newest + 1) / 8 * 8) 8 (fun j2 => bd4 (f_X7_copyFrom (v_this_undone_F_date j2) (v_this_undone_F_frozen j2) v_p0_date v_p0_frozen v_p0_healths (v_this_undone_F_healths j2) v_p0_favourers (v_this_undone_F_favourers j2)) (fun y5_0 y5_1 y5_2 y5_3 => some (((v_this_newest + 1) - (v_this_newest + 1) / 8 * 8), (if 8 < (v_this_size + 1) then 8 else (v_this_size + 1)), (va_up v_this_undone_F_date j2 y5_0), (va_up v_this_undone_F_frozen j2 y5_1), (va_up v_this_undone_F_healths j2 y5_2), (va_up v_this_undone_F_favourers j2 y5_3))))
def w_X1_remember (cyI cyZ cyW : ClassId) (a_this : Nat) (a_this_undone : Nat) (v_this_newest : Int32) (v_this_size : Int32) (a_this_kept : Nat) (a_this_isKept : Nat) (a_p0 : Nat) (v_p0_date : Int32) (v_p0_frozen : Int32) (a_p0_healths : Nat) (a_p0_favourers : Nat) (a_this_undone_F : Nat → Nat) (v_this_undone_F_date : Nat → Int32) (v_this_undone_F_frozen : Nat → Int32) (a_this_undone_F_healths : Nat → Nat) (a_this_undone_F_favourers : Nat → Nat) (v_p0_healths : Nat → Int32) (v_this_undone_F_healths : Nat → Nat → Int32) (v_p0_favourers : Nat → Int32) (v_this_undone_F_favourers : Nat → Nat → Int32) : va_W := [(a_this, .inr (1, [.ref a_this_undone, .int v_this_newest, .int v_this_size, .ref a_this_kept, .ref a_this_isKept])), (a_p0, .inr (7, [.int v_p0_date, .int v_p0_frozen, .ref a_p0_healths, .ref a_p0_favourers])), (a_this_undone, .inl (cyW, 8, .inr (.inr (.inr (.inr (fun k => some (a_this_undone_F k))))))), ((a_this_undone_F 0), .inr (7, [.int (v_this_undone_F_date 0), .int (v_this_undone_F_frozen 0), .ref (a_this_undone_F_healths 0), .ref (a_this_undone_F_favourers 0)])), ((a_this_undone_F 1), .inr (7, [.int (v_this_undone_F_date 1), .int (v_this_undone_F_frozen 1), .ref (a_this_undone_F_healths 1), .ref (a_this_undone_F_favourers 1)])), ((a_this_undone_F 2), .inr (7, [.int (v_this_undone_F_date 2), .int (v_this_undone_F_frozen 2), .ref (a_this_undone_F_healths 2), .ref (a_this_undone_F_favourers 2)])), ((a_this_undone_F 3), .inr (7, [.int (v_this_undone_F_date 3), .int (v_this_undone_F_frozen 3), .ref (a_this_undone_F_healths 3), .ref (a_this_undone_F_favourers 3)])), ((a_this_undone_F 4), .inr (7, [.int (v_this_undone_F_date 4), .int (v_this_undone_F_frozen 4), .ref (a_this_undone_F_healths 4), .ref (a_this_undone_F_favourers 4)])), ((a_this_undone_F 5), .inr (7, [.int (v_this_undone_F_date 5), .int (v_this_undone_F_frozen 5), .ref (a_this_undone_F_healths 5), .ref (a_this_undone_F_favourers 5)])), ((a_this_undone_F 6), .inr (7, [.int (v_this_undone_F_date 6), .int (v_this_undone_F_frozen 6), .ref (a_this_undone_F_healths 6), .ref (a_this_undone_F_favourers 6)])), ((a_this_undone_F 7), .inr (7, [.int (v_this_undone_F_date 7), .int (v_this_undone_F_frozen 7), .ref (a_this_undone_F_healths 7), .ref (a_this_undone_F_favourers 7)])), (a_p0_healths, .inl (cyI, 7, .inl v_p0_healths)), ((a_this_undone_F_healths 0), .inl (cyI, 7, .inl (v_this_undone_F_healths 0))), ((a_this_undone_F_healths 1), .inl (cyI, 7, .inl (v_this_undone_F_healths 1))), ((a_this_undone_F_healths 2), .inl (cyI, 7, .inl (v_this_undone_F_healths 2))), ((a_this_undone_F_healths 3), .inl (cyI, 7, .inl (v_this_undone_F_healths 3))), ((a_this_undone_F_healths 4), .inl (cyI, 7, .inl (v_this_undone_F_healths 4))), ((a_this_undone_F_healths 5), .inl (cyI, 7, .inl (v_this_undone_F_healths 5))), ((a_this_undone_F_healths 6), .inl (cyI, 7, .inl (v_this_undone_F_healths 6))), ((a_this_undone_F_healths 7), .inl (cyI, 7, .inl (v_this_undone_F_healths 7))), (a_p0_favourers, .inl (cyI, 7, .inl v_p0_favourers)), ((a_this_undone_F_favourers 0), .inl (cyI, 7, .inl (v_this_undone_F_favourers 0))), ((a_this_undone_F_favourers 1), .inl (cyI, 7, .inl (v_this_undone_F_favourers 1))), ((a_this_undone_F_favourers 2), .inl (cyI, 7, .inl (v_this_undone_F_favourers 2))), ((a_this_undone_F_favourers 3), .inl (cyI, 7, .inl (v_this_undone_F_favourers 3))), ((a_this_undone_F_favourers 4), .inl (cyI, 7, .inl (v_this_undone_F_favourers 4))), ((a_this_undone_F_favourers 5), .inl (cyI, 7, .inl (v_this_undone_F_favourers 5))), ((a_this_undone_F_favourers 6), .inl (cyI, 7, .inl (v_this_undone_F_favourers 6))), ((a_this_undone_F_favourers 7), .inl (cyI, 7, .inl (v_this_undone_F_favourers 7)))]
set_option maxHeartbeats 4000000 in
set_option maxRecDepth 100000 in
theorem c_X1_remember (l : Launch) (D : va_G) (cyI cyZ cyW : ClassId) (a_this : Nat) (a_this_undone : Nat) (v_this_newest : Int32) (v_this_size : Int32) (a_this_kept : Nat) (a_this_isKept : Nat) (a_p0 : Nat) (v_p0_date : Int32) (v_p0_frozen : Int32) (a_p0_healths : Nat) (a_p0_favourers : Nat) (a_this_undone_F : Nat → Nat) (v_this_undone_F_date : Nat → Int32) (v_this_undone_F_frozen : Nat → Int32) (a_this_undone_F_healths : Nat → Nat) (a_this_undone_F_favourers : Nat → Nat) (v_p0_healths : Nat → Int32) (v_this_undone_F_healths : Nat → Nat → Int32) (v_p0_favourers : Nat → Int32) (v_this_undone_F_favourers : Nat → Nat → Int32) (res : Int32 × Int32 × (Nat → Int32) × (Nat → Int32) × (Nat → Nat → Int32) × (Nat → Nat → Int32)) (hf : f_X1_remember v_this_newest v_this_size v_p0_date v_p0_frozen v_this_undone_F_date v_this_undone_F_frozen v_p0_healths v_this_undone_F_healths v_p0_favourers v_this_undone_F_favourers = some res) : ∀ sz, Met l yX1_remember wsX1_remember { frames := 2, cells := 0, slots := 0, locals := 81 } (PCx D (tyG cyI cyZ cyW) [.ref a_this, .ref a_p0] (w_X1_remember cyI cyZ cyW a_this a_this_undone v_this_newest v_this_size a_this_kept a_this_isKept a_p0 v_p0_date v_p0_frozen a_p0_healths a_p0_favourers a_this_undone_F v_this_undone_F_date v_this_undone_F_frozen a_this_undone_F_healths a_this_undone_F_favourers v_p0_healths v_this_undone_F_healths v_p0_favourers v_this_undone_F_favourers) sz) (QV D (tyG cyI cyZ cyW) (w_X1_remember cyI cyZ cyW a_this a_this_undone v_this_newest v_this_size a_this_kept a_this_isKept a_p0 v_p0_date v_p0_frozen a_p0_healths a_p0_favourers a_this_undone_F v_this_undone_F_date v_this_undone_F_frozen a_this_undone_F_healths a_this_undone_F_favourers v_p0_healths v_this_undone_F_healths v_p0_favourers v_this_undone_F_favourers) sz (w_X1_remember cyI cyZ cyW a_this a_this_undone res.1 res.2.1 a_this_kept a_this_isKept a_p0 v_p0_date v_p0_frozen a_p0_healths a_p0_favourers a_this_undone_F res.2.2.1 res.2.2.2.1 a_this_undone_F_healths a_this_undone_F_favourers v_p0_healths res.2.2.2.2.1 v_p0_favourers res.2.2.2.2.2)) 0 0 (va_A (w_X1_remember cyI cyZ cyW a_this a_this_undone v_this_newest v_this_size a_this_kept a_this_isKept a_p0 v_p0_date v_p0_frozen a_p0_healths a_p0_favourers a_this_undone_F v_this_undone_F_date v_this_undone_F_frozen a_this_undone_F_healths a_this_undone_F_favourers v_p0_healths v_this_undone_F_healths v_p0_favourers v_this_undone_F_favourers) sz) := by
  intro sz
  refine met_of (cc := cX1_remember) (maxL := 2) (ret := none) (lv0 := [(0, .ref a_this), (1, .ref a_p0)]) (by decide) rfl ⟨(Nat.le_of_ble_eq_true rfl), rfl⟩ ?_
  intro p e s m below meth c C hr hlk hnm hsz
  subst hsz
  have C : CX p s m _ c 2 cX1_remember RX1 wsX1_remember D (tyG cyI cyZ cyW) _ := C
  refine r_aload_n C dX1_remember_0 rfl 0 rfl ?_
  refine r_aload_n C dX1_remember_1 rfl 0 rfl ?_
  refine r_get C in_X1_remember_X1 0 rfl rfl 1 (by decide) lk_X1_remember_1 rfl rfl dX1_remember_2 ?_
  refine r_iconst C 1 dX1_remember_5 (by decide) ?_
  refine r_iadd C dX1_remember_6 ?_
  refine r_bipush C 8 dX1_remember_7 (by decide) ?_
  refine r_irem C dX1_remember_9 (by decide) ?_
  refine r_put (ws' := (w_X1_remember cyI cyZ cyW a_this a_this_undone ((v_this_newest + 1) - (v_this_newest + 1) / 8 * 8) v_this_size a_this_kept a_this_isKept a_p0 v_p0_date v_p0_frozen a_p0_healths a_p0_favourers a_this_undone_F v_this_undone_F_date v_this_undone_F_frozen a_this_undone_F_healths a_this_undone_F_favourers v_p0_healths v_this_undone_F_healths v_p0_favourers v_this_undone_F_favourers)) C in_X1_remember_X1 tyX1 tyX1_ok nmX1 0 rfl rfl 1 (by decide) lk_X1_remember_1 rfl rfl rfl rfl (Nat.le_of_ble_eq_true rfl) rfl dX1_remember_10 ?_
  refine r_aload_n C dX1_remember_13 rfl 0 rfl ?_
  refine r_get C in_X1_remember_X1 0 rfl rfl 0 (by decide) lk_X1_remember_2 rfl rfl dX1_remember_14 ?_
  refine r_aload_n C dX1_remember_17 rfl 0 rfl ?_
  refine r_get C in_X1_remember_X1 0 rfl rfl 1 (by decide) lk_X1_remember_1 rfl rfl dX1_remember_18 ?_
  obtain ⟨hi1, j2, hl3, hj4, hf⟩ := gdx_some hf
  have hcase : j2 = 0 ∨ j2 = 1 ∨ j2 = 2 ∨ j2 = 3 ∨ j2 = 4 ∨ j2 = 5 ∨ j2 = 6 ∨ j2 = 7 := by omega
  rcases hcase with rfl | rfl | rfl | rfl | rfl | rfl | rfl | rfl
  · refine r_aald C 0 2 2 rfl rfl ⟨hi1, hj4⟩ rfl dX1_remember_21 ?_
    refine r_aload_n C dX1_remember_22 rfl 1 rfl ?_
    obtain ⟨y5_0, y5_1, y5_2, y5_3, hy6, hf⟩ := bd4_some hf
    refine r_callV_v (As := [.ref a_p0]) (rest := []) (ws' := (w_X1_remember cyI cyZ cyW a_this a_this_undone ((v_this_newest + 1) - (v_this_newest + 1) / 8 * 8) v_this_size a_this_kept a_this_isKept a_p0 v_p0_date v_p0_frozen a_p0_healths a_p0_favourers a_this_undone_F (va_up v_this_undone_F_date 0 y5_0) (va_up v_this_undone_F_frozen 0 y5_1) a_this_undone_F_healths a_this_undone_F_favourers v_p0_healths (va_up v_this_undone_F_healths 0 y5_2) v_p0_favourers (va_up v_this_undone_F_favourers 0 y5_3))) C (c_X7_copyFrom l D cyI cyZ cyW (a_this_undone_F 0) (v_this_undone_F_date 0) (v_this_undone_F_frozen 0) (a_this_undone_F_healths 0) (a_this_undone_F_favourers 0) a_p0 v_p0_date v_p0_frozen a_p0_healths a_p0_favourers v_p0_healths (v_this_undone_F_healths 0) v_p0_favourers (v_this_undone_F_favourers 0) (y5_0, y5_1, y5_2, y5_3) hy6) gX1_remember_X7_copyFrom rfl hyV_X7_copyFrom ⟨rfl, rfl, (Nat.le_of_ble_eq_true rfl), (Nat.le_of_ble_eq_true rfl)⟩ rfl 3 rfl rfl [3, 1, 11, 12, 20, 21] rfl rfl rfl rfl rfl (Nat.le_of_ble_eq_true rfl) ⟨Nat.zero_le _, Nat.zero_le _⟩ dX1_remember_23 ?_
    refine r_aload_n C dX1_remember_26 rfl 0 rfl ?_
    refine r_aload_n C dX1_remember_27 rfl 0 rfl ?_
    refine r_get C in_X1_remember_X1 0 rfl rfl 2 (by decide) lk_X1_remember_3 rfl rfl dX1_remember_28 ?_
    refine r_iconst C 1 dX1_remember_31 (by decide) ?_
    refine r_iadd C dX1_remember_32 ?_
    refine r_bipush C 8 dX1_remember_33 (by decide) ?_
    refine r_mmin C lk_X1_remember_4 lk_X1_remember_5 lk_X1_remember_6 lk_X1_remember_7 (Nat.le_of_ble_eq_true rfl) (Nat.le_of_ble_eq_true rfl) (Nat.zero_le _) (Nat.zero_le _) dX1_remember_35 ?_
    refine r_put (ws' := (w_X1_remember cyI cyZ cyW a_this a_this_undone ((v_this_newest + 1) - (v_this_newest + 1) / 8 * 8) (if 8 < (v_this_size + 1) then 8 else (v_this_size + 1)) a_this_kept a_this_isKept a_p0 v_p0_date v_p0_frozen a_p0_healths a_p0_favourers a_this_undone_F (va_up v_this_undone_F_date 0 y5_0) (va_up v_this_undone_F_frozen 0 y5_1) a_this_undone_F_healths a_this_undone_F_favourers v_p0_healths (va_up v_this_undone_F_healths 0 y5_2) v_p0_favourers (va_up v_this_undone_F_favourers 0 y5_3))) C in_X1_remember_X1 tyX1 tyX1_ok nmX1 0 rfl rfl 2 (by decide) lk_X1_remember_3 rfl rfl rfl rfl (Nat.le_of_ble_eq_true rfl) rfl dX1_remember_38 ?_
    rw [← Option.some.inj hf]
    exact r_vret C hr hlk dX1_remember_41
  · refine r_aald C 1 2 2 rfl rfl ⟨hi1, hj4⟩ rfl dX1_remember_21 ?_
    refine r_aload_n C dX1_remember_22 rfl 1 rfl ?_
    obtain ⟨y5_0, y5_1, y5_2, y5_3, hy6, hf⟩ := bd4_some hf
    refine r_callV_v (As := [.ref a_p0]) (rest := []) (ws' := (w_X1_remember cyI cyZ cyW a_this a_this_undone ((v_this_newest + 1) - (v_this_newest + 1) / 8 * 8) v_this_size a_this_kept a_this_isKept a_p0 v_p0_date v_p0_frozen a_p0_healths a_p0_favourers a_this_undone_F (va_up v_this_undone_F_date 1 y5_0) (va_up v_this_undone_F_frozen 1 y5_1) a_this_undone_F_healths a_this_undone_F_favourers v_p0_healths (va_up v_this_undone_F_healths 1 y5_2) v_p0_favourers (va_up v_this_undone_F_favourers 1 y5_3))) C (c_X7_copyFrom l D cyI cyZ cyW (a_this_undone_F 1) (v_this_undone_F_date 1) (v_this_undone_F_frozen 1) (a_this_undone_F_healths 1) (a_this_undone_F_favourers 1) a_p0 v_p0_date v_p0_frozen a_p0_healths a_p0_favourers v_p0_healths (v_this_undone_F_healths 1) v_p0_favourers (v_this_undone_F_favourers 1) (y5_0, y5_1, y5_2, y5_3) hy6) gX1_remember_X7_copyFrom rfl hyV_X7_copyFrom ⟨rfl, rfl, (Nat.le_of_ble_eq_true rfl), (Nat.le_of_ble_eq_true rfl)⟩ rfl 4 rfl rfl [4, 1, 11, 13, 20, 22] rfl rfl rfl rfl rfl (Nat.le_of_ble_eq_true rfl) ⟨Nat.zero_le _, Nat.zero_le _⟩ dX1_remember_23 ?_
    refine r_aload_n C dX1_remember_26 rfl 0 rfl ?_
    refine r_aload_n C dX1_remember_27 rfl 0 rfl ?_
    refine r_get C in_X1_remember_X1 0 rfl rfl 2 (by decide) lk_X1_remember_3 rfl rfl dX1_remember_28 ?_
    refine r_iconst C 1 dX1_remember_31 (by decide) ?_
    refine r_iadd C dX1_remember_32 ?_
    refine r_bipush C 8 dX1_remember_33 (by decide) ?_
    refine r_mmin C lk_X1_remember_4 lk_X1_remember_5 lk_X1_remember_6 lk_X1_remember_7 (Nat.le_of_ble_eq_true rfl) (Nat.le_of_ble_eq_true rfl) (Nat.zero_le _) (Nat.zero_le _) dX1_remember_35 ?_
    refine r_put (ws' := (w_X1_remember cyI cyZ cyW a_this a_this_undone ((v_this_newest + 1) - (v_this_newest + 1) / 8 * 8) (if 8 < (v_this_size + 1) then 8 else (v_this_size + 1)) a_this_kept a_this_isKept a_p0 v_p0_date v_p0_frozen a_p0_healths a_p0_favourers a_this_undone_F (va_up v_this_undone_F_date 1 y5_0) (va_up v_this_undone_F_frozen 1 y5_1) a_this_undone_F_healths a_this_undone_F_favourers v_p0_healths (va_up v_this_undone_F_healths 1 y5_2) v_p0_favourers (va_up v_this_undone_F_favourers 1 y5_3))) C in_X1_remember_X1 tyX1 tyX1_ok nmX1 0 rfl rfl 2 (by decide) lk_X1_remember_3 rfl rfl rfl rfl (Nat.le_of_ble_eq_true rfl) rfl dX1_remember_38 ?_
    rw [← Option.some.inj hf]
    exact r_vret C hr hlk dX1_remember_41
  · refine r_aald C 2 2 2 rfl rfl ⟨hi1, hj4⟩ rfl dX1_remember_21 ?_
    refine r_aload_n C dX1_remember_22 rfl 1 rfl ?_
    obtain ⟨y5_0, y5_1, y5_2, y5_3, hy6, hf⟩ := bd4_some hf
    refine r_callV_v (As := [.ref a_p0]) (rest := []) (ws' := (w_X1_remember cyI cyZ cyW a_this a_this_undone ((v_this_newest + 1) - (v_this_newest + 1) / 8 * 8) v_this_size a_this_kept a_this_isKept a_p0 v_p0_date v_p0_frozen a_p0_healths a_p0_favourers a_this_undone_F (va_up v_this_undone_F_date 2 y5_0) (va_up v_this_undone_F_frozen 2 y5_1) a_this_undone_F_healths a_this_undone_F_favourers v_p0_healths (va_up v_this_undone_F_healths 2 y5_2) v_p0_favourers (va_up v_this_undone_F_favourers 2 y5_3))) C (c_X7_copyFrom l D cyI cyZ cyW (a_this_undone_F 2) (v_this_undone_F_date 2) (v_this_undone_F_frozen 2) (a_this_undone_F_healths 2) (a_this_undone_F_favourers 2) a_p0 v_p0_date v_p0_frozen a_p0_healths a_p0_favourers v_p0_healths (v_this_undone_F_healths 2) v_p0_favourers (v_this_undone_F_favourers 2) (y5_0, y5_1, y5_2, y5_3) hy6) gX1_remember_X7_copyFrom rfl hyV_X7_copyFrom ⟨rfl, rfl, (Nat.le_of_ble_eq_true rfl), (Nat.le_of_ble_eq_true rfl)⟩ rfl 5 rfl rfl [5, 1, 11, 14, 20, 23] rfl rfl rfl rfl rfl (Nat.le_of_ble_eq_true rfl) ⟨Nat.zero_le _, Nat.zero_le _⟩ dX1_remember_23 ?_
    refine r_aload_n C dX1_remember_26 rfl 0 rfl ?_
    refine r_aload_n C dX1_remember_27 rfl 0 rfl ?_
    refine r_get C in_X1_remember_X1 0 rfl rfl 2 (by decide) lk_X1_remember_3 rfl rfl dX1_remember_28 ?_
    refine r_iconst C 1 dX1_remember_31 (by decide) ?_
    refine r_iadd C dX1_remember_32 ?_
    refine r_bipush C 8 dX1_remember_33 (by decide) ?_
    refine r_mmin C lk_X1_remember_4 lk_X1_remember_5 lk_X1_remember_6 lk_X1_remember_7 (Nat.le_of_ble_eq_true rfl) (Nat.le_of_ble_eq_true rfl) (Nat.zero_le _) (Nat.zero_le _) dX1_remember_35 ?_
    refine r_put (ws' := (w_X1_remember cyI cyZ cyW a_this a_this_undone ((v_this_newest + 1) - (v_this_newest + 1) / 8 * 8) (if 8 < (v_this_size + 1) then 8 else (v_this_size + 1)) a_this_kept a_this_isKept a_p0 v_p0_date v_p0_frozen a_p0_healths a_p0_favourers a_this_undone_F (va_up v_this_undone_F_date 2 y5_0) (va_up v_this_undone_F_frozen 2 y5_1) a_this_undone_F_healths a_this_undone_F_favourers v_p0_healths (va_up v_this_undone_F_healths 2 y5_2) v_p0_favourers (va_up v_this_undone_F_favourers 2 y5_3))) C in_X1_remember_X1 tyX1 tyX1_ok nmX1 0 rfl rfl 2 (by decide) lk_X1_remember_3 rfl rfl rfl rfl (Nat.le_of_ble_eq_true rfl) rfl dX1_remember_38 ?_
    rw [← Option.some.inj hf]
    exact r_vret C hr hlk dX1_remember_41
  · refine r_aald C 3 2 2 rfl rfl ⟨hi1, hj4⟩ rfl dX1_remember_21 ?_
    refine r_aload_n C dX1_remember_22 rfl 1 rfl ?_
    obtain ⟨y5_0, y5_1, y5_2, y5_3, hy6, hf⟩ := bd4_some hf
    refine r_callV_v (As := [.ref a_p0]) (rest := []) (ws' := (w_X1_remember cyI cyZ cyW a_this a_this_undone ((v_this_newest + 1) - (v_this_newest + 1) / 8 * 8) v_this_size a_this_kept a_this_isKept a_p0 v_p0_date v_p0_frozen a_p0_healths a_p0_favourers a_this_undone_F (va_up v_this_undone_F_date 3 y5_0) (va_up v_this_undone_F_frozen 3 y5_1) a_this_undone_F_healths a_this_undone_F_favourers v_p0_healths (va_up v_this_undone_F_healths 3 y5_2) v_p0_favourers (va_up v_this_undone_F_favourers 3 y5_3))) C (c_X7_copyFrom l D cyI cyZ cyW (a_this_undone_F 3) (v_this_undone_F_date 3) (v_this_undone_F_frozen 3) (a_this_undone_F_healths 3) (a_this_undone_F_favourers 3) a_p0 v_p0_date v_p0_frozen a_p0_healths a_p0_favourers v_p0_healths (v_this_undone_F_healths 3) v_p0_favourers (v_this_undone_F_favourers 3) (y5_0, y5_1, y5_2, y5_3) hy6) gX1_remember_X7_copyFrom rfl hyV_X7_copyFrom ⟨rfl, rfl, (Nat.le_of_ble_eq_true rfl), (Nat.le_of_ble_eq_true rfl)⟩ rfl 6 rfl rfl [6, 1, 11, 15, 20, 24] rfl rfl rfl rfl rfl (Nat.le_of_ble_eq_true rfl) ⟨Nat.zero_le _, Nat.zero_le _⟩ dX1_remember_23 ?_
    refine r_aload_n C dX1_remember_26 rfl 0 rfl ?_
    refine r_aload_n C dX1_remember_27 rfl 0 rfl ?_
    refine r_get C in_X1_remember_X1 0 rfl rfl 2 (by decide) lk_X1_remember_3 rfl rfl dX1_remember_28 ?_
    refine r_iconst C 1 dX1_remember_31 (by decide) ?_
    refine r_iadd C dX1_remember_32 ?_
    refine r_bipush C 8 dX1_remember_33 (by decide) ?_
    refine r_mmin C lk_X1_remember_4 lk_X1_remember_5 lk_X1_remember_6 lk_X1_remember_7 (Nat.le_of_ble_eq_true rfl) (Nat.le_of_ble_eq_true rfl) (Nat.zero_le _) (Nat.zero_le _) dX1_remember_35 ?_
    refine r_put (ws' := (w_X1_remember cyI cyZ cyW a_this a_this_undone ((v_this_newest + 1) - (v_this_newest + 1) / 8 * 8) (if 8 < (v_this_size + 1) then 8 else (v_this_size + 1)) a_this_kept a_this_isKept a_p0 v_p0_date v_p0_frozen a_p0_healths a_p0_favourers a_this_undone_F (va_up v_this_undone_F_date 3 y5_0) (va_up v_this_undone_F_frozen 3 y5_1) a_this_undone_F_healths a_this_undone_F_favourers v_p0_healths (va_up v_this_undone_F_healths 3 y5_2) v_p0_favourers (va_up v_this_undone_F_favourers 3 y5_3))) C in_X1_remember_X1 tyX1 tyX1_ok nmX1 0 rfl rfl 2 (by decide) lk_X1_remember_3 rfl rfl rfl rfl (Nat.le_of_ble_eq_true rfl) rfl dX1_remember_38 ?_
    rw [← Option.some.inj hf]
    exact r_vret C hr hlk dX1_remember_41
  · refine r_aald C 4 2 2 rfl rfl ⟨hi1, hj4⟩ rfl dX1_remember_21 ?_
    refine r_aload_n C dX1_remember_22 rfl 1 rfl ?_
    obtain ⟨y5_0, y5_1, y5_2, y5_3, hy6, hf⟩ := bd4_some hf
    refine r_callV_v (As := [.ref a_p0]) (rest := []) (ws' := (w_X1_remember cyI cyZ cyW a_this a_this_undone ((v_this_newest + 1) - (v_this_newest + 1) / 8 * 8) v_this_size a_this_kept a_this_isKept a_p0 v_p0_date v_p0_frozen a_p0_healths a_p0_favourers a_this_undone_F (va_up v_this_undone_F_date 4 y5_0) (va_up v_this_undone_F_frozen 4 y5_1) a_this_undone_F_healths a_this_undone_F_favourers v_p0_healths (va_up v_this_undone_F_healths 4 y5_2) v_p0_favourers (va_up v_this_undone_F_favourers 4 y5_3))) C (c_X7_copyFrom l D cyI cyZ cyW (a_this_undone_F 4) (v_this_undone_F_date 4) (v_this_undone_F_frozen 4) (a_this_undone_F_healths 4) (a_this_undone_F_favourers 4) a_p0 v_p0_date v_p0_frozen a_p0_healths a_p0_favourers v_p0_healths (v_this_undone_F_healths 4) v_p0_favourers (v_this_undone_F_favourers 4) (y5_0, y5_1, y5_2, y5_3) hy6) gX1_remember_X7_copyFrom rfl hyV_X7_copyFrom ⟨rfl, rfl, (Nat.le_of_ble_eq_true rfl), (Nat.le_of_ble_eq_true rfl)⟩ rfl 7 rfl rfl [7, 1, 11, 16, 20, 25] rfl rfl rfl rfl rfl (Nat.le_of_ble_eq_true rfl) ⟨Nat.zero_le _, Nat.zero_le _⟩ dX1_remember_23 ?_
    refine r_aload_n C dX1_remember_26 rfl 0 rfl ?_
    refine r_aload_n C dX1_remember_27 rfl 0 rfl ?_
    refine r_get C in_X1_remember_X1 0 rfl rfl 2 (by decide) lk_X1_remember_3 rfl rfl dX1_remember_28 ?_
    refine r_iconst C 1 dX1_remember_31 (by decide) ?_
    refine r_iadd C dX1_remember_32 ?_
    refine r_bipush C 8 dX1_remember_33 (by decide) ?_
    refine r_mmin C lk_X1_remember_4 lk_X1_remember_5 lk_X1_remember_6 lk_X1_remember_7 (Nat.le_of_ble_eq_true rfl) (Nat.le_of_ble_eq_true rfl) (Nat.zero_le _) (Nat.zero_le _) dX1_remember_35 ?_
    refine r_put (ws' := (w_X1_remember cyI cyZ cyW a_this a_this_undone ((v_this_newest + 1) - (v_this_newest + 1) / 8 * 8) (if 8 < (v_this_size + 1) then 8 else (v_this_size + 1)) a_this_kept a_this_isKept a_p0 v_p0_date v_p0_frozen a_p0_healths a_p0_favourers a_this_undone_F (va_up v_this_undone_F_date 4 y5_0) (va_up v_this_undone_F_frozen 4 y5_1) a_this_undone_F_healths a_this_undone_F_favourers v_p0_healths (va_up v_this_undone_F_healths 4 y5_2) v_p0_favourers (va_up v_this_undone_F_favourers 4 y5_3))) C in_X1_remember_X1 tyX1 tyX1_ok nmX1 0 rfl rfl 2 (by decide) lk_X1_remember_3 rfl rfl rfl rfl (Nat.le_of_ble_eq_true rfl) rfl dX1_remember_38 ?_
    rw [← Option.some.inj hf]
    exact r_vret C hr hlk dX1_remember_41
  · refine r_aald C 5 2 2 rfl rfl ⟨hi1, hj4⟩ rfl dX1_remember_21 ?_
    refine r_aload_n C dX1_remember_22 rfl 1 rfl ?_
    obtain ⟨y5_0, y5_1, y5_2, y5_3, hy6, hf⟩ := bd4_some hf
    refine r_callV_v (As := [.ref a_p0]) (rest := []) (ws' := (w_X1_remember cyI cyZ cyW a_this a_this_undone ((v_this_newest + 1) - (v_this_newest + 1) / 8 * 8) v_this_size a_this_kept a_this_isKept a_p0 v_p0_date v_p0_frozen a_p0_healths a_p0_favourers a_this_undone_F (va_up v_this_undone_F_date 5 y5_0) (va_up v_this_undone_F_frozen 5 y5_1) a_this_undone_F_healths a_this_undone_F_favourers v_p0_healths (va_up v_this_undone_F_healths 5 y5_2) v_p0_favourers (va_up v_this_undone_F_favourers 5 y5_3))) C (c_X7_copyFrom l D cyI cyZ cyW (a_this_undone_F 5) (v_this_undone_F_date 5) (v_this_undone_F_frozen 5) (a_this_undone_F_healths 5) (a_this_undone_F_favourers 5) a_p0 v_p0_date v_p0_frozen a_p0_healths a_p0_favourers v_p0_healths (v_this_undone_F_healths 5) v_p0_favourers (v_this_undone_F_favourers 5) (y5_0, y5_1, y5_2, y5_3) hy6) gX1_remember_X7_copyFrom rfl hyV_X7_copyFrom ⟨rfl, rfl, (Nat.le_of_ble_eq_true rfl), (Nat.le_of_ble_eq_true rfl)⟩ rfl 8 rfl rfl [8, 1, 11, 17, 20, 26] rfl rfl rfl rfl rfl (Nat.le_of_ble_eq_true rfl) ⟨Nat.zero_le _, Nat.zero_le _⟩ dX1_remember_23 ?_
    refine r_aload_n C dX1_remember_26 rfl 0 rfl ?_
    refine r_aload_n C dX1_remember_27 rfl 0 rfl ?_
    refine r_get C in_X1_remember_X1 0 rfl rfl 2 (by decide) lk_X1_remember_3 rfl rfl dX1_remember_28 ?_
    refine r_iconst C 1 dX1_remember_31 (by decide) ?_
    refine r_iadd C dX1_remember_32 ?_
    refine r_bipush C 8 dX1_remember_33 (by decide) ?_
    refine r_mmin C lk_X1_remember_4 lk_X1_remember_5 lk_X1_remember_6 lk_X1_remember_7 (Nat.le_of_ble_eq_true rfl) (Nat.le_of_ble_eq_true rfl) (Nat.zero_le _) (Nat.zero_le _) dX1_remember_35 ?_
    refine r_put (ws' := (w_X1_remember cyI cyZ cyW a_this a_this_undone ((v_this_newest + 1) - (v_this_newest + 1) / 8 * 8) (if 8 < (v_this_size + 1) then 8 else (v_this_size + 1)) a_this_kept a_this_isKept a_p0 v_p0_date v_p0_frozen a_p0_healths a_p0_favourers a_this_undone_F (va_up v_this_undone_F_date 5 y5_0) (va_up v_this_undone_F_frozen 5 y5_1) a_this_undone_F_healths a_this_undone_F_favourers v_p0_healths (va_up v_this_undone_F_healths 5 y5_2) v_p0_favourers (va_up v_this_undone_F_favourers 5 y5_3))) C in_X1_remember_X1 tyX1 tyX1_ok nmX1 0 rfl rfl 2 (by decide) lk_X1_remember_3 rfl rfl rfl rfl (Nat.le_of_ble_eq_true rfl) rfl dX1_remember_38 ?_
    rw [← Option.some.inj hf]
    exact r_vret C hr hlk dX1_remember_41
  · refine r_aald C 6 2 2 rfl rfl ⟨hi1, hj4⟩ rfl dX1_remember_21 ?_
    refine r_aload_n C dX1_remember_22 rfl 1 rfl ?_
    obtain ⟨y5_0, y5_1, y5_2, y5_3, hy6, hf⟩ := bd4_some hf
    refine r_callV_v (As := [.ref a_p0]) (rest := []) (ws' := (w_X1_remember cyI cyZ cyW a_this a_this_undone ((v_this_newest + 1) - (v_this_newest + 1) / 8 * 8) v_this_size a_this_kept a_this_isKept a_p0 v_p0_date v_p0_frozen a_p0_healths a_p0_favourers a_this_undone_F (va_up v_this_undone_F_date 6 y5_0) (va_up v_this_undone_F_frozen 6 y5_1) a_this_undone_F_healths a_this_undone_F_favourers v_p0_healths (va_up v_this_undone_F_healths 6 y5_2) v_p0_favourers (va_up v_this_undone_F_favourers 6 y5_3))) C (c_X7_copyFrom l D cyI cyZ cyW (a_this_undone_F 6) (v_this_undone_F_date 6) (v_this_undone_F_frozen 6) (a_this_undone_F_healths 6) (a_this_undone_F_favourers 6) a_p0 v_p0_date v_p0_frozen a_p0_healths a_p0_favourers v_p0_healths (v_this_undone_F_healths 6) v_p0_favourers (v_this_undone_F_favourers 6) (y5_0, y5_1, y5_2, y5_3) hy6) gX1_remember_X7_copyFrom rfl hyV_X7_copyFrom ⟨rfl, rfl, (Nat.le_of_ble_eq_true rfl), (Nat.le_of_ble_eq_true rfl)⟩ rfl 9 rfl rfl [9, 1, 11, 18, 20, 27] rfl rfl rfl rfl rfl (Nat.le_of_ble_eq_true rfl) ⟨Nat.zero_le _, Nat.zero_le _⟩ dX1_remember_23 ?_
    refine r_aload_n C dX1_remember_26 rfl 0 rfl ?_
    refine r_aload_n C dX1_remember_27 rfl 0 rfl ?_
    refine r_get C in_X1_remember_X1 0 rfl rfl 2 (by decide) lk_X1_remember_3 rfl rfl dX1_remember_28 ?_
    refine r_iconst C 1 dX1_remember_31 (by decide) ?_
    refine r_iadd C dX1_remember_32 ?_
    refine r_bipush C 8 dX1_remember_33 (by decide) ?_
    refine r_mmin C lk_X1_remember_4 lk_X1_remember_5 lk_X1_remember_6 lk_X1_remember_7 (Nat.le_of_ble_eq_true rfl) (Nat.le_of_ble_eq_true rfl) (Nat.zero_le _) (Nat.zero_le _) dX1_remember_35 ?_
    refine r_put (ws' := (w_X1_remember cyI cyZ cyW a_this a_this_undone ((v_this_newest + 1) - (v_this_newest + 1) / 8 * 8) (if 8 < (v_this_size + 1) then 8 else (v_this_size + 1)) a_this_kept a_this_isKept a_p0 v_p0_date v_p0_frozen a_p0_healths a_p0_favourers a_this_undone_F (va_up v_this_undone_F_date 6 y5_0) (va_up v_this_undone_F_frozen 6 y5_1) a_this_undone_F_healths a_this_undone_F_favourers v_p0_healths (va_up v_this_undone_F_healths 6 y5_2) v_p0_favourers (va_up v_this_undone_F_favourers 6 y5_3))) C in_X1_remember_X1 tyX1 tyX1_ok nmX1 0 rfl rfl 2 (by decide) lk_X1_remember_3 rfl rfl rfl rfl (Nat.le_of_ble_eq_true rfl) rfl dX1_remember_38 ?_
    rw [← Option.some.inj hf]
    exact r_vret C hr hlk dX1_remember_41
  · refine r_aald C 7 2 2 rfl rfl ⟨hi1, hj4⟩ rfl dX1_remember_21 ?_
    refine r_aload_n C dX1_remember_22 rfl 1 rfl ?_
    obtain ⟨y5_0, y5_1, y5_2, y5_3, hy6, hf⟩ := bd4_some hf
    refine r_callV_v (As := [.ref a_p0]) (rest := []) (ws' := (w_X1_remember cyI cyZ cyW a_this a_this_undone ((v_this_newest + 1) - (v_this_newest + 1) / 8 * 8) v_this_size a_this_kept a_this_isKept a_p0 v_p0_date v_p0_frozen a_p0_healths a_p0_favourers a_this_undone_F (va_up v_this_undone_F_date 7 y5_0) (va_up v_this_undone_F_frozen 7 y5_1) a_this_undone_F_healths a_this_undone_F_favourers v_p0_healths (va_up v_this_undone_F_healths 7 y5_2) v_p0_favourers (va_up v_this_undone_F_favourers 7 y5_3))) C (c_X7_copyFrom l D cyI cyZ cyW (a_this_undone_F 7) (v_this_undone_F_date 7) (v_this_undone_F_frozen 7) (a_this_undone_F_healths 7) (a_this_undone_F_favourers 7) a_p0 v_p0_date v_p0_frozen a_p0_healths a_p0_favourers v_p0_healths (v_this_undone_F_healths 7) v_p0_favourers (v_this_undone_F_favourers 7) (y5_0, y5_1, y5_2, y5_3) hy6) gX1_remember_X7_copyFrom rfl hyV_X7_copyFrom ⟨rfl, rfl, (Nat.le_of_ble_eq_true rfl), (Nat.le_of_ble_eq_true rfl)⟩ rfl 10 rfl rfl [10, 1, 11, 19, 20, 28] rfl rfl rfl rfl rfl (Nat.le_of_ble_eq_true rfl) ⟨Nat.zero_le _, Nat.zero_le _⟩ dX1_remember_23 ?_
    refine r_aload_n C dX1_remember_26 rfl 0 rfl ?_
    refine r_aload_n C dX1_remember_27 rfl 0 rfl ?_
    refine r_get C in_X1_remember_X1 0 rfl rfl 2 (by decide) lk_X1_remember_3 rfl rfl dX1_remember_28 ?_
    refine r_iconst C 1 dX1_remember_31 (by decide) ?_
    refine r_iadd C dX1_remember_32 ?_
    refine r_bipush C 8 dX1_remember_33 (by decide) ?_
    refine r_mmin C lk_X1_remember_4 lk_X1_remember_5 lk_X1_remember_6 lk_X1_remember_7 (Nat.le_of_ble_eq_true rfl) (Nat.le_of_ble_eq_true rfl) (Nat.zero_le _) (Nat.zero_le _) dX1_remember_35 ?_
    refine r_put (ws' := (w_X1_remember cyI cyZ cyW a_this a_this_undone ((v_this_newest + 1) - (v_this_newest + 1) / 8 * 8) (if 8 < (v_this_size + 1) then 8 else (v_this_size + 1)) a_this_kept a_this_isKept a_p0 v_p0_date v_p0_frozen a_p0_healths a_p0_favourers a_this_undone_F (va_up v_this_undone_F_date 7 y5_0) (va_up v_this_undone_F_frozen 7 y5_1) a_this_undone_F_healths a_this_undone_F_favourers v_p0_healths (va_up v_this_undone_F_healths 7 y5_2) v_p0_favourers (va_up v_this_undone_F_favourers 7 y5_3))) C in_X1_remember_X1 tyX1 tyX1_ok nmX1 0 rfl rfl 2 (by decide) lk_X1_remember_3 rfl rfl rfl rfl (Nat.le_of_ble_eq_true rfl) rfl dX1_remember_38 ?_
    rw [← Option.some.inj hf]
    exact r_vret C hr hlk dX1_remember_41

theorem lk_X1_recall_1 : Cond.fieldLink RX1 25 "ParishCoat$Past" "size" "I" ∈ wsX1_recall := List.mem_of_getElem? (i := 1) rfl
theorem lk_X1_recall_2 : Cond.fieldLink RX1 11 "ParishCoat$Past" "undone" "[LParishCoat$Winter;" ∈ wsX1_recall := List.mem_of_getElem? (i := 2) rfl
theorem lk_X1_recall_3 : Cond.fieldLink RX1 29 "ParishCoat$Past" "newest" "I" ∈ wsX1_recall := List.mem_of_getElem? (i := 3) rfl
theorem in_X1_recall_X1 : ∀ w ∈ u_ws RX1 TX1 5, w ∈ wsX1_recall := fun _ h => List.mem_cons_of_mem _ (List.mem_append_left _ (List.mem_append_right _ h))
def f_X1_recall (v_this_newest : Int32) (v_this_size : Int32) (v_p0_date : Int32) (v_p0_frozen : Int32) (v_this_undone_F_date : Nat → Int32) (v_this_undone_F_frozen : Nat → Int32) (v_this_undone_F_healths : Nat → Nat → Int32) (v_p0_healths : Nat → Int32) (v_this_undone_F_favourers : Nat → Nat → Int32) (v_p0_favourers : Nat → Int32) : Option (Int32 × Int32 × Int32 × Int32 × (Nat → Int32) × (Nat → Int32)) := if v_this_size ≤ 0 then (some (v_this_newest, v_this_size, v_p0_date, v_p0_frozen, v_p0_healths, v_p0_favourers)) else (gdx_ v_this_newest 8 (fun j2 => bd4 (f_X7_copyFrom v_p0_date v_p0_frozen (v_this_undone_F_date j2) (v_this_undone_F_frozen j2) (v_this_undone_F_healths j2) v_p0_healths (v_this_undone_F_favourers j2) v_p0_favourers) (fun y5_0 y5_1 y5_2 y5_3 => some ((((v_this_newest + 8) - 1) - ((v_this_newest + 8) - 1) / 8 * 8), (v_this_size - 1), y5_0, y5_1, y5_2, y5_3))))
def w_X1_recall (cyI cyZ cyW : ClassId) (a_this : Nat) (a_this_undone : Nat) (v_this_newest : Int32) (v_this_size : Int32) (a_this_kept : Nat) (a_this_isKept : Nat) (a_p0 : Nat) (v_p0_date : Int32) (v_p0_frozen : Int32) (a_p0_healths : Nat) (a_p0_favourers : Nat) (a_this_undone_F : Nat → Nat) (v_this_undone_F_date : Nat → Int32) (v_this_undone_F_frozen : Nat → Int32) (a_this_undone_F_healths : Nat → Nat) (a_this_undone_F_favourers : Nat → Nat) (v_this_undone_F_healths : Nat → Nat → Int32) (v_p0_healths : Nat → Int32) (v_this_undone_F_favourers : Nat → Nat → Int32) (v_p0_favourers : Nat → Int32) : va_W := [(a_this, .inr (1, [.ref a_this_undone, .int v_this_newest, .int v_this_size, .ref a_this_kept, .ref a_this_isKept])), (a_p0, .inr (7, [.int v_p0_date, .int v_p0_frozen, .ref a_p0_healths, .ref a_p0_favourers])), (a_this_undone, .inl (cyW, 8, .inr (.inr (.inr (.inr (fun k => some (a_this_undone_F k))))))), ((a_this_undone_F 0), .inr (7, [.int (v_this_undone_F_date 0), .int (v_this_undone_F_frozen 0), .ref (a_this_undone_F_healths 0), .ref (a_this_undone_F_favourers 0)])), ((a_this_undone_F 1), .inr (7, [.int (v_this_undone_F_date 1), .int (v_this_undone_F_frozen 1), .ref (a_this_undone_F_healths 1), .ref (a_this_undone_F_favourers 1)])), ((a_this_undone_F 2), .inr (7, [.int (v_this_undone_F_date 2), .int (v_this_undone_F_frozen 2), .ref (a_this_undone_F_healths 2), .ref (a_this_undone_F_favourers 2)])), ((a_this_undone_F 3), .inr (7, [.int (v_this_undone_F_date 3), .int (v_this_undone_F_frozen 3), .ref (a_this_undone_F_healths 3), .ref (a_this_undone_F_favourers 3)])), ((a_this_undone_F 4), .inr (7, [.int (v_this_undone_F_date 4), .int (v_this_undone_F_frozen 4), .ref (a_this_undone_F_healths 4), .ref (a_this_undone_F_favourers 4)])), ((a_this_undone_F 5), .inr (7, [.int (v_this_undone_F_date 5), .int (v_this_undone_F_frozen 5), .ref (a_this_undone_F_healths 5), .ref (a_this_undone_F_favourers 5)])), ((a_this_undone_F 6), .inr (7, [.int (v_this_undone_F_date 6), .int (v_this_undone_F_frozen 6), .ref (a_this_undone_F_healths 6), .ref (a_this_undone_F_favourers 6)])), ((a_this_undone_F 7), .inr (7, [.int (v_this_undone_F_date 7), .int (v_this_undone_F_frozen 7), .ref (a_this_undone_F_healths 7), .ref (a_this_undone_F_favourers 7)])), ((a_this_undone_F_healths 0), .inl (cyI, 7, .inl (v_this_undone_F_healths 0))), ((a_this_undone_F_healths 1), .inl (cyI, 7, .inl (v_this_undone_F_healths 1))), ((a_this_undone_F_healths 2), .inl (cyI, 7, .inl (v_this_undone_F_healths 2))), ((a_this_undone_F_healths 3), .inl (cyI, 7, .inl (v_this_undone_F_healths 3))), ((a_this_undone_F_healths 4), .inl (cyI, 7, .inl (v_this_undone_F_healths 4))), ((a_this_undone_F_healths 5), .inl (cyI, 7, .inl (v_this_undone_F_healths 5))), ((a_this_undone_F_healths 6), .inl (cyI, 7, .inl (v_this_undone_F_healths 6))), ((a_this_undone_F_healths 7), .inl (cyI, 7, .inl (v_this_undone_F_healths 7))), (a_p0_healths, .inl (cyI, 7, .inl v_p0_healths)), ((a_this_undone_F_favourers 0), .inl (cyI, 7, .inl (v_this_undone_F_favourers 0))), ((a_this_undone_F_favourers 1), .inl (cyI, 7, .inl (v_this_undone_F_favourers 1))), ((a_this_undone_F_favourers 2), .inl (cyI, 7, .inl (v_this_undone_F_favourers 2))), ((a_this_undone_F_favourers 3), .inl (cyI, 7, .inl (v_this_undone_F_favourers 3))), ((a_this_undone_F_favourers 4), .inl (cyI, 7, .inl (v_this_undone_F_favourers 4))), ((a_this_undone_F_favourers 5), .inl (cyI, 7, .inl (v_this_undone_F_favourers 5))), ((a_this_undone_F_favourers 6), .inl (cyI, 7, .inl (v_this_undone_F_favourers 6))), ((a_this_undone_F_favourers 7), .inl (cyI, 7, .inl (v_this_undone_F_favourers 7))), (a_p0_favourers, .inl (cyI, 7, .inl v_p0_favourers))]
set_option maxHeartbeats 4000000 in
set_option maxRecDepth 100000 in
theorem c_X1_recall (l : Launch) (D : va_G) (cyI cyZ cyW : ClassId) (a_this : Nat) (a_this_undone : Nat) (v_this_newest : Int32) (v_this_size : Int32) (a_this_kept : Nat) (a_this_isKept : Nat) (a_p0 : Nat) (v_p0_date : Int32) (v_p0_frozen : Int32) (a_p0_healths : Nat) (a_p0_favourers : Nat) (a_this_undone_F : Nat → Nat) (v_this_undone_F_date : Nat → Int32) (v_this_undone_F_frozen : Nat → Int32) (a_this_undone_F_healths : Nat → Nat) (a_this_undone_F_favourers : Nat → Nat) (v_this_undone_F_healths : Nat → Nat → Int32) (v_p0_healths : Nat → Int32) (v_this_undone_F_favourers : Nat → Nat → Int32) (v_p0_favourers : Nat → Int32) (res : Int32 × Int32 × Int32 × Int32 × (Nat → Int32) × (Nat → Int32)) (hf : f_X1_recall v_this_newest v_this_size v_p0_date v_p0_frozen v_this_undone_F_date v_this_undone_F_frozen v_this_undone_F_healths v_p0_healths v_this_undone_F_favourers v_p0_favourers = some res) : ∀ sz, Met l yX1_recall wsX1_recall { frames := 2, cells := 0, slots := 0, locals := 81 } (PCx D (tyG cyI cyZ cyW) [.ref a_this, .ref a_p0] (w_X1_recall cyI cyZ cyW a_this a_this_undone v_this_newest v_this_size a_this_kept a_this_isKept a_p0 v_p0_date v_p0_frozen a_p0_healths a_p0_favourers a_this_undone_F v_this_undone_F_date v_this_undone_F_frozen a_this_undone_F_healths a_this_undone_F_favourers v_this_undone_F_healths v_p0_healths v_this_undone_F_favourers v_p0_favourers) sz) (QV D (tyG cyI cyZ cyW) (w_X1_recall cyI cyZ cyW a_this a_this_undone v_this_newest v_this_size a_this_kept a_this_isKept a_p0 v_p0_date v_p0_frozen a_p0_healths a_p0_favourers a_this_undone_F v_this_undone_F_date v_this_undone_F_frozen a_this_undone_F_healths a_this_undone_F_favourers v_this_undone_F_healths v_p0_healths v_this_undone_F_favourers v_p0_favourers) sz (w_X1_recall cyI cyZ cyW a_this a_this_undone res.1 res.2.1 a_this_kept a_this_isKept a_p0 res.2.2.1 res.2.2.2.1 a_p0_healths a_p0_favourers a_this_undone_F v_this_undone_F_date v_this_undone_F_frozen a_this_undone_F_healths a_this_undone_F_favourers v_this_undone_F_healths res.2.2.2.2.1 v_this_undone_F_favourers res.2.2.2.2.2)) 0 0 (va_A (w_X1_recall cyI cyZ cyW a_this a_this_undone v_this_newest v_this_size a_this_kept a_this_isKept a_p0 v_p0_date v_p0_frozen a_p0_healths a_p0_favourers a_this_undone_F v_this_undone_F_date v_this_undone_F_frozen a_this_undone_F_healths a_this_undone_F_favourers v_this_undone_F_healths v_p0_healths v_this_undone_F_favourers v_p0_favourers) sz) := by
  intro sz
  refine met_of (cc := cX1_recall) (maxL := 2) (ret := none) (lv0 := [(0, .ref a_this), (1, .ref a_p0)]) (by decide) rfl ⟨(Nat.le_of_ble_eq_true rfl), rfl⟩ ?_
  intro p e s m below meth c C hr hlk hnm hsz
  subst hsz
  have C : CX p s m _ c 2 cX1_recall RX1 wsX1_recall D (tyG cyI cyZ cyW) _ := C
  refine r_aload_n C dX1_recall_0 rfl 0 rfl ?_
  refine r_get C in_X1_recall_X1 0 rfl rfl 2 (by decide) lk_X1_recall_1 rfl rfl dX1_recall_1 ?_
  refine r_if_le C 46 dX1_recall_4 (by decide) hf (fun hf => ?_) (fun hf => ?_)
  · rw [← Option.some.inj hf]
    exact r_vret C hr hlk dX1_recall_46
  · refine r_aload_n C dX1_recall_7 rfl 1 rfl ?_
    refine r_aload_n C dX1_recall_8 rfl 0 rfl ?_
    refine r_get C in_X1_recall_X1 0 rfl rfl 0 (by decide) lk_X1_recall_2 rfl rfl dX1_recall_9 ?_
    refine r_aload_n C dX1_recall_12 rfl 0 rfl ?_
    refine r_get C in_X1_recall_X1 0 rfl rfl 1 (by decide) lk_X1_recall_3 rfl rfl dX1_recall_13 ?_
    obtain ⟨hi1, j2, hl3, hj4, hf⟩ := gdx_some hf
    have hcase : j2 = 0 ∨ j2 = 1 ∨ j2 = 2 ∨ j2 = 3 ∨ j2 = 4 ∨ j2 = 5 ∨ j2 = 6 ∨ j2 = 7 := by omega
    rcases hcase with rfl | rfl | rfl | rfl | rfl | rfl | rfl | rfl
    · refine r_aald C 0 2 2 rfl rfl ⟨hi1, hj4⟩ rfl dX1_recall_16 ?_
      obtain ⟨y5_0, y5_1, y5_2, y5_3, hy6, hf⟩ := bd4_some hf
      refine r_callV_v (As := [.ref (a_this_undone_F 0)]) (rest := []) (ws' := (w_X1_recall cyI cyZ cyW a_this a_this_undone v_this_newest v_this_size a_this_kept a_this_isKept a_p0 y5_0 y5_1 a_p0_healths a_p0_favourers a_this_undone_F v_this_undone_F_date v_this_undone_F_frozen a_this_undone_F_healths a_this_undone_F_favourers v_this_undone_F_healths y5_2 v_this_undone_F_favourers y5_3)) C (c_X7_copyFrom l D cyI cyZ cyW a_p0 v_p0_date v_p0_frozen a_p0_healths a_p0_favourers (a_this_undone_F 0) (v_this_undone_F_date 0) (v_this_undone_F_frozen 0) (a_this_undone_F_healths 0) (a_this_undone_F_favourers 0) (v_this_undone_F_healths 0) v_p0_healths (v_this_undone_F_favourers 0) v_p0_favourers (y5_0, y5_1, y5_2, y5_3) hy6) gX1_recall_X7_copyFrom rfl hyV_X7_copyFrom ⟨rfl, rfl, (Nat.le_of_ble_eq_true rfl), (Nat.le_of_ble_eq_true rfl)⟩ rfl 1 rfl rfl [1, 3, 11, 19, 20, 28] rfl rfl rfl rfl rfl (Nat.le_of_ble_eq_true rfl) ⟨Nat.zero_le _, Nat.zero_le _⟩ dX1_recall_17 ?_
      refine r_aload_n C dX1_recall_20 rfl 0 rfl ?_
      refine r_aload_n C dX1_recall_21 rfl 0 rfl ?_
      refine r_get C in_X1_recall_X1 0 rfl rfl 1 (by decide) lk_X1_recall_3 rfl rfl dX1_recall_22 ?_
      refine r_bipush C 8 dX1_recall_25 (by decide) ?_
      refine r_iadd C dX1_recall_27 ?_
      refine r_iconst C 1 dX1_recall_28 (by decide) ?_
      refine r_isub C dX1_recall_29 ?_
      refine r_bipush C 8 dX1_recall_30 (by decide) ?_
      refine r_irem C dX1_recall_32 (by decide) ?_
      refine r_put (ws' := (w_X1_recall cyI cyZ cyW a_this a_this_undone (((v_this_newest + 8) - 1) - ((v_this_newest + 8) - 1) / 8 * 8) v_this_size a_this_kept a_this_isKept a_p0 y5_0 y5_1 a_p0_healths a_p0_favourers a_this_undone_F v_this_undone_F_date v_this_undone_F_frozen a_this_undone_F_healths a_this_undone_F_favourers v_this_undone_F_healths y5_2 v_this_undone_F_favourers y5_3)) C in_X1_recall_X1 tyX1 tyX1_ok nmX1 0 rfl rfl 1 (by decide) lk_X1_recall_3 rfl rfl rfl rfl (Nat.le_of_ble_eq_true rfl) rfl dX1_recall_33 ?_
      refine r_aload_n C dX1_recall_36 rfl 0 rfl ?_
      refine r_dup C dX1_recall_37 rfl ?_
      refine r_get C in_X1_recall_X1 0 rfl rfl 2 (by decide) lk_X1_recall_1 rfl rfl dX1_recall_38 ?_
      refine r_iconst C 1 dX1_recall_41 (by decide) ?_
      refine r_isub C dX1_recall_42 ?_
      refine r_put (ws' := (w_X1_recall cyI cyZ cyW a_this a_this_undone (((v_this_newest + 8) - 1) - ((v_this_newest + 8) - 1) / 8 * 8) (v_this_size - 1) a_this_kept a_this_isKept a_p0 y5_0 y5_1 a_p0_healths a_p0_favourers a_this_undone_F v_this_undone_F_date v_this_undone_F_frozen a_this_undone_F_healths a_this_undone_F_favourers v_this_undone_F_healths y5_2 v_this_undone_F_favourers y5_3)) C in_X1_recall_X1 tyX1 tyX1_ok nmX1 0 rfl rfl 2 (by decide) lk_X1_recall_1 rfl rfl rfl rfl (Nat.le_of_ble_eq_true rfl) rfl dX1_recall_43 ?_
      rw [← Option.some.inj hf]
      exact r_vret C hr hlk dX1_recall_46
    · refine r_aald C 1 2 2 rfl rfl ⟨hi1, hj4⟩ rfl dX1_recall_16 ?_
      obtain ⟨y5_0, y5_1, y5_2, y5_3, hy6, hf⟩ := bd4_some hf
      refine r_callV_v (As := [.ref (a_this_undone_F 1)]) (rest := []) (ws' := (w_X1_recall cyI cyZ cyW a_this a_this_undone v_this_newest v_this_size a_this_kept a_this_isKept a_p0 y5_0 y5_1 a_p0_healths a_p0_favourers a_this_undone_F v_this_undone_F_date v_this_undone_F_frozen a_this_undone_F_healths a_this_undone_F_favourers v_this_undone_F_healths y5_2 v_this_undone_F_favourers y5_3)) C (c_X7_copyFrom l D cyI cyZ cyW a_p0 v_p0_date v_p0_frozen a_p0_healths a_p0_favourers (a_this_undone_F 1) (v_this_undone_F_date 1) (v_this_undone_F_frozen 1) (a_this_undone_F_healths 1) (a_this_undone_F_favourers 1) (v_this_undone_F_healths 1) v_p0_healths (v_this_undone_F_favourers 1) v_p0_favourers (y5_0, y5_1, y5_2, y5_3) hy6) gX1_recall_X7_copyFrom rfl hyV_X7_copyFrom ⟨rfl, rfl, (Nat.le_of_ble_eq_true rfl), (Nat.le_of_ble_eq_true rfl)⟩ rfl 1 rfl rfl [1, 4, 12, 19, 21, 28] rfl rfl rfl rfl rfl (Nat.le_of_ble_eq_true rfl) ⟨Nat.zero_le _, Nat.zero_le _⟩ dX1_recall_17 ?_
      refine r_aload_n C dX1_recall_20 rfl 0 rfl ?_
      refine r_aload_n C dX1_recall_21 rfl 0 rfl ?_
      refine r_get C in_X1_recall_X1 0 rfl rfl 1 (by decide) lk_X1_recall_3 rfl rfl dX1_recall_22 ?_
      refine r_bipush C 8 dX1_recall_25 (by decide) ?_
      refine r_iadd C dX1_recall_27 ?_
      refine r_iconst C 1 dX1_recall_28 (by decide) ?_
      refine r_isub C dX1_recall_29 ?_
      refine r_bipush C 8 dX1_recall_30 (by decide) ?_
      refine r_irem C dX1_recall_32 (by decide) ?_
      refine r_put (ws' := (w_X1_recall cyI cyZ cyW a_this a_this_undone (((v_this_newest + 8) - 1) - ((v_this_newest + 8) - 1) / 8 * 8) v_this_size a_this_kept a_this_isKept a_p0 y5_0 y5_1 a_p0_healths a_p0_favourers a_this_undone_F v_this_undone_F_date v_this_undone_F_frozen a_this_undone_F_healths a_this_undone_F_favourers v_this_undone_F_healths y5_2 v_this_undone_F_favourers y5_3)) C in_X1_recall_X1 tyX1 tyX1_ok nmX1 0 rfl rfl 1 (by decide) lk_X1_recall_3 rfl rfl rfl rfl (Nat.le_of_ble_eq_true rfl) rfl dX1_recall_33 ?_
      refine r_aload_n C dX1_recall_36 rfl 0 rfl ?_
      refine r_dup C dX1_recall_37 rfl ?_
      refine r_get C in_X1_recall_X1 0 rfl rfl 2 (by decide) lk_X1_recall_1 rfl rfl dX1_recall_38 ?_
      refine r_iconst C 1 dX1_recall_41 (by decide) ?_
      refine r_isub C dX1_recall_42 ?_
      refine r_put (ws' := (w_X1_recall cyI cyZ cyW a_this a_this_undone (((v_this_newest + 8) - 1) - ((v_this_newest + 8) - 1) / 8 * 8) (v_this_size - 1) a_this_kept a_this_isKept a_p0 y5_0 y5_1 a_p0_healths a_p0_favourers a_this_undone_F v_this_undone_F_date v_this_undone_F_frozen a_this_undone_F_healths a_this_undone_F_favourers v_this_undone_F_healths y5_2 v_this_undone_F_favourers y5_3)) C in_X1_recall_X1 tyX1 tyX1_ok nmX1 0 rfl rfl 2 (by decide) lk_X1_recall_1 rfl rfl rfl rfl (Nat.le_of_ble_eq_true rfl) rfl dX1_recall_43 ?_
      rw [← Option.some.inj hf]
      exact r_vret C hr hlk dX1_recall_46
    · refine r_aald C 2 2 2 rfl rfl ⟨hi1, hj4⟩ rfl dX1_recall_16 ?_
      obtain ⟨y5_0, y5_1, y5_2, y5_3, hy6, hf⟩ := bd4_some hf
      refine r_callV_v (As := [.ref (a_this_undone_F 2)]) (rest := []) (ws' := (w_X1_recall cyI cyZ cyW a_this a_this_undone v_this_newest v_this_size a_this_kept a_this_isKept a_p0 y5_0 y5_1 a_p0_healths a_p0_favourers a_this_undone_F v_this_undone_F_date v_this_undone_F_frozen a_this_undone_F_healths a_this_undone_F_favourers v_this_undone_F_healths y5_2 v_this_undone_F_favourers y5_3)) C (c_X7_copyFrom l D cyI cyZ cyW a_p0 v_p0_date v_p0_frozen a_p0_healths a_p0_favourers (a_this_undone_F 2) (v_this_undone_F_date 2) (v_this_undone_F_frozen 2) (a_this_undone_F_healths 2) (a_this_undone_F_favourers 2) (v_this_undone_F_healths 2) v_p0_healths (v_this_undone_F_favourers 2) v_p0_favourers (y5_0, y5_1, y5_2, y5_3) hy6) gX1_recall_X7_copyFrom rfl hyV_X7_copyFrom ⟨rfl, rfl, (Nat.le_of_ble_eq_true rfl), (Nat.le_of_ble_eq_true rfl)⟩ rfl 1 rfl rfl [1, 5, 13, 19, 22, 28] rfl rfl rfl rfl rfl (Nat.le_of_ble_eq_true rfl) ⟨Nat.zero_le _, Nat.zero_le _⟩ dX1_recall_17 ?_
      refine r_aload_n C dX1_recall_20 rfl 0 rfl ?_
      refine r_aload_n C dX1_recall_21 rfl 0 rfl ?_
      refine r_get C in_X1_recall_X1 0 rfl rfl 1 (by decide) lk_X1_recall_3 rfl rfl dX1_recall_22 ?_
      refine r_bipush C 8 dX1_recall_25 (by decide) ?_
      refine r_iadd C dX1_recall_27 ?_
      refine r_iconst C 1 dX1_recall_28 (by decide) ?_
      refine r_isub C dX1_recall_29 ?_
      refine r_bipush C 8 dX1_recall_30 (by decide) ?_
      refine r_irem C dX1_recall_32 (by decide) ?_
      refine r_put (ws' := (w_X1_recall cyI cyZ cyW a_this a_this_undone (((v_this_newest + 8) - 1) - ((v_this_newest + 8) - 1) / 8 * 8) v_this_size a_this_kept a_this_isKept a_p0 y5_0 y5_1 a_p0_healths a_p0_favourers a_this_undone_F v_this_undone_F_date v_this_undone_F_frozen a_this_undone_F_healths a_this_undone_F_favourers v_this_undone_F_healths y5_2 v_this_undone_F_favourers y5_3)) C in_X1_recall_X1 tyX1 tyX1_ok nmX1 0 rfl rfl 1 (by decide) lk_X1_recall_3 rfl rfl rfl rfl (Nat.le_of_ble_eq_true rfl) rfl dX1_recall_33 ?_
      refine r_aload_n C dX1_recall_36 rfl 0 rfl ?_
      refine r_dup C dX1_recall_37 rfl ?_
      refine r_get C in_X1_recall_X1 0 rfl rfl 2 (by decide) lk_X1_recall_1 rfl rfl dX1_recall_38 ?_
      refine r_iconst C 1 dX1_recall_41 (by decide) ?_
      refine r_isub C dX1_recall_42 ?_
      refine r_put (ws' := (w_X1_recall cyI cyZ cyW a_this a_this_undone (((v_this_newest + 8) - 1) - ((v_this_newest + 8) - 1) / 8 * 8) (v_this_size - 1) a_this_kept a_this_isKept a_p0 y5_0 y5_1 a_p0_healths a_p0_favourers a_this_undone_F v_this_undone_F_date v_this_undone_F_frozen a_this_undone_F_healths a_this_undone_F_favourers v_this_undone_F_healths y5_2 v_this_undone_F_favourers y5_3)) C in_X1_recall_X1 tyX1 tyX1_ok nmX1 0 rfl rfl 2 (by decide) lk_X1_recall_1 rfl rfl rfl rfl (Nat.le_of_ble_eq_true rfl) rfl dX1_recall_43 ?_
      rw [← Option.some.inj hf]
      exact r_vret C hr hlk dX1_recall_46
    · refine r_aald C 3 2 2 rfl rfl ⟨hi1, hj4⟩ rfl dX1_recall_16 ?_
      obtain ⟨y5_0, y5_1, y5_2, y5_3, hy6, hf⟩ := bd4_some hf
      refine r_callV_v (As := [.ref (a_this_undone_F 3)]) (rest := []) (ws' := (w_X1_recall cyI cyZ cyW a_this a_this_undone v_this_newest v_this_size a_this_kept a_this_isKept a_p0 y5_0 y5_1 a_p0_healths a_p0_favourers a_this_undone_F v_this_undone_F_date v_this_undone_F_frozen a_this_undone_F_healths a_this_undone_F_favourers v_this_undone_F_healths y5_2 v_this_undone_F_favourers y5_3)) C (c_X7_copyFrom l D cyI cyZ cyW a_p0 v_p0_date v_p0_frozen a_p0_healths a_p0_favourers (a_this_undone_F 3) (v_this_undone_F_date 3) (v_this_undone_F_frozen 3) (a_this_undone_F_healths 3) (a_this_undone_F_favourers 3) (v_this_undone_F_healths 3) v_p0_healths (v_this_undone_F_favourers 3) v_p0_favourers (y5_0, y5_1, y5_2, y5_3) hy6) gX1_recall_X7_copyFrom rfl hyV_X7_copyFrom ⟨rfl, rfl, (Nat.le_of_ble_eq_true rfl), (Nat.le_of_ble_eq_true rfl)⟩ rfl 1 rfl rfl [1, 6, 14, 19, 23, 28] rfl rfl rfl rfl rfl (Nat.le_of_ble_eq_true rfl) ⟨Nat.zero_le _, Nat.zero_le _⟩ dX1_recall_17 ?_
      refine r_aload_n C dX1_recall_20 rfl 0 rfl ?_
      refine r_aload_n C dX1_recall_21 rfl 0 rfl ?_
      refine r_get C in_X1_recall_X1 0 rfl rfl 1 (by decide) lk_X1_recall_3 rfl rfl dX1_recall_22 ?_
      refine r_bipush C 8 dX1_recall_25 (by decide) ?_
      refine r_iadd C dX1_recall_27 ?_
      refine r_iconst C 1 dX1_recall_28 (by decide) ?_
      refine r_isub C dX1_recall_29 ?_
      refine r_bipush C 8 dX1_recall_30 (by decide) ?_
      refine r_irem C dX1_recall_32 (by decide) ?_
      refine r_put (ws' := (w_X1_recall cyI cyZ cyW a_this a_this_undone (((v_this_newest + 8) - 1) - ((v_this_newest + 8) - 1) / 8 * 8) v_this_size a_this_kept a_this_isKept a_p0 y5_0 y5_1 a_p0_healths a_p0_favourers a_this_undone_F v_this_undone_F_date v_this_undone_F_frozen a_this_undone_F_healths a_this_undone_F_favourers v_this_undone_F_healths y5_2 v_this_undone_F_favourers y5_3)) C in_X1_recall_X1 tyX1 tyX1_ok nmX1 0 rfl rfl 1 (by decide) lk_X1_recall_3 rfl rfl rfl rfl (Nat.le_of_ble_eq_true rfl) rfl dX1_recall_33 ?_
      refine r_aload_n C dX1_recall_36 rfl 0 rfl ?_
      refine r_dup C dX1_recall_37 rfl ?_
      refine r_get C in_X1_recall_X1 0 rfl rfl 2 (by decide) lk_X1_recall_1 rfl rfl dX1_recall_38 ?_
      refine r_iconst C 1 dX1_recall_41 (by decide) ?_
      refine r_isub C dX1_recall_42 ?_
      refine r_put (ws' := (w_X1_recall cyI cyZ cyW a_this a_this_undone (((v_this_newest + 8) - 1) - ((v_this_newest + 8) - 1) / 8 * 8) (v_this_size - 1) a_this_kept a_this_isKept a_p0 y5_0 y5_1 a_p0_healths a_p0_favourers a_this_undone_F v_this_undone_F_date v_this_undone_F_frozen a_this_undone_F_healths a_this_undone_F_favourers v_this_undone_F_healths y5_2 v_this_undone_F_favourers y5_3)) C in_X1_recall_X1 tyX1 tyX1_ok nmX1 0 rfl rfl 2 (by decide) lk_X1_recall_1 rfl rfl rfl rfl (Nat.le_of_ble_eq_true rfl) rfl dX1_recall_43 ?_
      rw [← Option.some.inj hf]
      exact r_vret C hr hlk dX1_recall_46
    · refine r_aald C 4 2 2 rfl rfl ⟨hi1, hj4⟩ rfl dX1_recall_16 ?_
      obtain ⟨y5_0, y5_1, y5_2, y5_3, hy6, hf⟩ := bd4_some hf
      refine r_callV_v (As := [.ref (a_this_undone_F 4)]) (rest := []) (ws' := (w_X1_recall cyI cyZ cyW a_this a_this_undone v_this_newest v_this_size a_this_kept a_this_isKept a_p0 y5_0 y5_1 a_p0_healths a_p0_favourers a_this_undone_F v_this_undone_F_date v_this_undone_F_frozen a_this_undone_F_healths a_this_undone_F_favourers v_this_undone_F_healths y5_2 v_this_undone_F_favourers y5_3)) C (c_X7_copyFrom l D cyI cyZ cyW a_p0 v_p0_date v_p0_frozen a_p0_healths a_p0_favourers (a_this_undone_F 4) (v_this_undone_F_date 4) (v_this_undone_F_frozen 4) (a_this_undone_F_healths 4) (a_this_undone_F_favourers 4) (v_this_undone_F_healths 4) v_p0_healths (v_this_undone_F_favourers 4) v_p0_favourers (y5_0, y5_1, y5_2, y5_3) hy6) gX1_recall_X7_copyFrom rfl hyV_X7_copyFrom ⟨rfl, rfl, (Nat.le_of_ble_eq_true rfl), (Nat.le_of_ble_eq_true rfl)⟩ rfl 1 rfl rfl [1, 7, 15, 19, 24, 28] rfl rfl rfl rfl rfl (Nat.le_of_ble_eq_true rfl) ⟨Nat.zero_le _, Nat.zero_le _⟩ dX1_recall_17 ?_
      refine r_aload_n C dX1_recall_20 rfl 0 rfl ?_
      refine r_aload_n C dX1_recall_21 rfl 0 rfl ?_
      refine r_get C in_X1_recall_X1 0 rfl rfl 1 (by decide) lk_X1_recall_3 rfl rfl dX1_recall_22 ?_
      refine r_bipush C 8 dX1_recall_25 (by decide) ?_
      refine r_iadd C dX1_recall_27 ?_
      refine r_iconst C 1 dX1_recall_28 (by decide) ?_
      refine r_isub C dX1_recall_29 ?_
      refine r_bipush C 8 dX1_recall_30 (by decide) ?_
      refine r_irem C dX1_recall_32 (by decide) ?_
      refine r_put (ws' := (w_X1_recall cyI cyZ cyW a_this a_this_undone (((v_this_newest + 8) - 1) - ((v_this_newest + 8) - 1) / 8 * 8) v_this_size a_this_kept a_this_isKept a_p0 y5_0 y5_1 a_p0_healths a_p0_favourers a_this_undone_F v_this_undone_F_date v_this_undone_F_frozen a_this_undone_F_healths a_this_undone_F_favourers v_this_undone_F_healths y5_2 v_this_undone_F_favourers y5_3)) C in_X1_recall_X1 tyX1 tyX1_ok nmX1 0 rfl rfl 1 (by decide) lk_X1_recall_3 rfl rfl rfl rfl (Nat.le_of_ble_eq_true rfl) rfl dX1_recall_33 ?_
      refine r_aload_n C dX1_recall_36 rfl 0 rfl ?_
      refine r_dup C dX1_recall_37 rfl ?_
      refine r_get C in_X1_recall_X1 0 rfl rfl 2 (by decide) lk_X1_recall_1 rfl rfl dX1_recall_38 ?_
      refine r_iconst C 1 dX1_recall_41 (by decide) ?_
      refine r_isub C dX1_recall_42 ?_
      refine r_put (ws' := (w_X1_recall cyI cyZ cyW a_this a_this_undone (((v_this_newest + 8) - 1) - ((v_this_newest + 8) - 1) / 8 * 8) (v_this_size - 1) a_this_kept a_this_isKept a_p0 y5_0 y5_1 a_p0_healths a_p0_favourers a_this_undone_F v_this_undone_F_date v_this_undone_F_frozen a_this_undone_F_healths a_this_undone_F_favourers v_this_undone_F_healths y5_2 v_this_undone_F_favourers y5_3)) C in_X1_recall_X1 tyX1 tyX1_ok nmX1 0 rfl rfl 2 (by decide) lk_X1_recall_1 rfl rfl rfl rfl (Nat.le_of_ble_eq_true rfl) rfl dX1_recall_43 ?_
      rw [← Option.some.inj hf]
      exact r_vret C hr hlk dX1_recall_46
    · refine r_aald C 5 2 2 rfl rfl ⟨hi1, hj4⟩ rfl dX1_recall_16 ?_
      obtain ⟨y5_0, y5_1, y5_2, y5_3, hy6, hf⟩ := bd4_some hf
      refine r_callV_v (As := [.ref (a_this_undone_F 5)]) (rest := []) (ws' := (w_X1_recall cyI cyZ cyW a_this a_this_undone v_this_newest v_this_size a_this_kept a_this_isKept a_p0 y5_0 y5_1 a_p0_healths a_p0_favourers a_this_undone_F v_this_undone_F_date v_this_undone_F_frozen a_this_undone_F_healths a_this_undone_F_favourers v_this_undone_F_healths y5_2 v_this_undone_F_favourers y5_3)) C (c_X7_copyFrom l D cyI cyZ cyW a_p0 v_p0_date v_p0_frozen a_p0_healths a_p0_favourers (a_this_undone_F 5) (v_this_undone_F_date 5) (v_this_undone_F_frozen 5) (a_this_undone_F_healths 5) (a_this_undone_F_favourers 5) (v_this_undone_F_healths 5) v_p0_healths (v_this_undone_F_favourers 5) v_p0_favourers (y5_0, y5_1, y5_2, y5_3) hy6) gX1_recall_X7_copyFrom rfl hyV_X7_copyFrom ⟨rfl, rfl, (Nat.le_of_ble_eq_true rfl), (Nat.le_of_ble_eq_true rfl)⟩ rfl 1 rfl rfl [1, 8, 16, 19, 25, 28] rfl rfl rfl rfl rfl (Nat.le_of_ble_eq_true rfl) ⟨Nat.zero_le _, Nat.zero_le _⟩ dX1_recall_17 ?_
      refine r_aload_n C dX1_recall_20 rfl 0 rfl ?_
      refine r_aload_n C dX1_recall_21 rfl 0 rfl ?_
      refine r_get C in_X1_recall_X1 0 rfl rfl 1 (by decide) lk_X1_recall_3 rfl rfl dX1_recall_22 ?_
      refine r_bipush C 8 dX1_recall_25 (by decide) ?_
      refine r_iadd C dX1_recall_27 ?_
      refine r_iconst C 1 dX1_recall_28 (by decide) ?_
      refine r_isub C dX1_recall_29 ?_
      refine r_bipush C 8 dX1_recall_30 (by decide) ?_
      refine r_irem C dX1_recall_32 (by decide) ?_
      refine r_put (ws' := (w_X1_recall cyI cyZ cyW a_this a_this_undone (((v_this_newest + 8) - 1) - ((v_this_newest + 8) - 1) / 8 * 8) v_this_size a_this_kept a_this_isKept a_p0 y5_0 y5_1 a_p0_healths a_p0_favourers a_this_undone_F v_this_undone_F_date v_this_undone_F_frozen a_this_undone_F_healths a_this_undone_F_favourers v_this_undone_F_healths y5_2 v_this_undone_F_favourers y5_3)) C in_X1_recall_X1 tyX1 tyX1_ok nmX1 0 rfl rfl 1 (by decide) lk_X1_recall_3 rfl rfl rfl rfl (Nat.le_of_ble_eq_true rfl) rfl dX1_recall_33 ?_
      refine r_aload_n C dX1_recall_36 rfl 0 rfl ?_
      refine r_dup C dX1_recall_37 rfl ?_
      refine r_get C in_X1_recall_X1 0 rfl rfl 2 (by decide) lk_X1_recall_1 rfl rfl dX1_recall_38 ?_
      refine r_iconst C 1 dX1_recall_41 (by decide) ?_
      refine r_isub C dX1_recall_42 ?_
      refine r_put (ws' := (w_X1_recall cyI cyZ cyW a_this a_this_undone (((v_this_newest + 8) - 1) - ((v_this_newest + 8) - 1) / 8 * 8) (v_this_size - 1) a_this_kept a_this_isKept a_p0 y5_0 y5_1 a_p0_healths a_p0_favourers a_this_undone_F v_this_undone_F_date v_this_undone_F_frozen a_this_undone_F_healths a_this_undone_F_favourers v_this_undone_F_healths y5_2 v_this_undone_F_favourers y5_3)) C in_X1_recall_X1 tyX1 tyX1_ok nmX1 0 rfl rfl 2 (by decide) lk_X1_recall_1 rfl rfl rfl rfl (Nat.le_of_ble_eq_true rfl) rfl dX1_recall_43 ?_
      rw [← Option.some.inj hf]
      exact r_vret C hr hlk dX1_recall_46
    · refine r_aald C 6 2 2 rfl rfl ⟨hi1, hj4⟩ rfl dX1_recall_16 ?_
      obtain ⟨y5_0, y5_1, y5_2, y5_3, hy6, hf⟩ := bd4_some hf
      refine r_callV_v (As := [.ref (a_this_undone_F 6)]) (rest := []) (ws' := (w_X1_recall cyI cyZ cyW a_this a_this_undone v_this_newest v_this_size a_this_kept a_this_isKept a_p0 y5_0 y5_1 a_p0_healths a_p0_favourers a_this_undone_F v_this_undone_F_date v_this_undone_F_frozen a_this_undone_F_healths a_this_undone_F_favourers v_this_undone_F_healths y5_2 v_this_undone_F_favourers y5_3)) C (c_X7_copyFrom l D cyI cyZ cyW a_p0 v_p0_date v_p0_frozen a_p0_healths a_p0_favourers (a_this_undone_F 6) (v_this_undone_F_date 6) (v_this_undone_F_frozen 6) (a_this_undone_F_healths 6) (a_this_undone_F_favourers 6) (v_this_undone_F_healths 6) v_p0_healths (v_this_undone_F_favourers 6) v_p0_favourers (y5_0, y5_1, y5_2, y5_3) hy6) gX1_recall_X7_copyFrom rfl hyV_X7_copyFrom ⟨rfl, rfl, (Nat.le_of_ble_eq_true rfl), (Nat.le_of_ble_eq_true rfl)⟩ rfl 1 rfl rfl [1, 9, 17, 19, 26, 28] rfl rfl rfl rfl rfl (Nat.le_of_ble_eq_true rfl) ⟨Nat.zero_le _, Nat.zero_le _⟩ dX1_recall_17 ?_
      refine r_aload_n C dX1_recall_20 rfl 0 rfl ?_
      refine r_aload_n C dX1_recall_21 rfl 0 rfl ?_
      refine r_get C in_X1_recall_X1 0 rfl rfl 1 (by decide) lk_X1_recall_3 rfl rfl dX1_recall_22 ?_
      refine r_bipush C 8 dX1_recall_25 (by decide) ?_
      refine r_iadd C dX1_recall_27 ?_
      refine r_iconst C 1 dX1_recall_28 (by decide) ?_
      refine r_isub C dX1_recall_29 ?_
      refine r_bipush C 8 dX1_recall_30 (by decide) ?_
      refine r_irem C dX1_recall_32 (by decide) ?_
      refine r_put (ws' := (w_X1_recall cyI cyZ cyW a_this a_this_undone (((v_this_newest + 8) - 1) - ((v_this_newest + 8) - 1) / 8 * 8) v_this_size a_this_kept a_this_isKept a_p0 y5_0 y5_1 a_p0_healths a_p0_favourers a_this_undone_F v_this_undone_F_date v_this_undone_F_frozen a_this_undone_F_healths a_this_undone_F_favourers v_this_undone_F_healths y5_2 v_this_undone_F_favourers y5_3)) C in_X1_recall_X1 tyX1 tyX1_ok nmX1 0 rfl rfl 1 (by decide) lk_X1_recall_3 rfl rfl rfl rfl (Nat.le_of_ble_eq_true rfl) rfl dX1_recall_33 ?_
      refine r_aload_n C dX1_recall_36 rfl 0 rfl ?_
      refine r_dup C dX1_recall_37 rfl ?_
      refine r_get C in_X1_recall_X1 0 rfl rfl 2 (by decide) lk_X1_recall_1 rfl rfl dX1_recall_38 ?_
      refine r_iconst C 1 dX1_recall_41 (by decide) ?_
      refine r_isub C dX1_recall_42 ?_
      refine r_put (ws' := (w_X1_recall cyI cyZ cyW a_this a_this_undone (((v_this_newest + 8) - 1) - ((v_this_newest + 8) - 1) / 8 * 8) (v_this_size - 1) a_this_kept a_this_isKept a_p0 y5_0 y5_1 a_p0_healths a_p0_favourers a_this_undone_F v_this_undone_F_date v_this_undone_F_frozen a_this_undone_F_healths a_this_undone_F_favourers v_this_undone_F_healths y5_2 v_this_undone_F_favourers y5_3)) C in_X1_recall_X1 tyX1 tyX1_ok nmX1 0 rfl rfl 2 (by decide) lk_X1_recall_1 rfl rfl rfl rfl (Nat.le_of_ble_eq_true rfl) rfl dX1_recall_43 ?_
      rw [← Option.some.inj hf]
      exact r_vret C hr hlk dX1_recall_46
    · refine r_aald C 7 2 2 rfl rfl ⟨hi1, hj4⟩ rfl dX1_recall_16 ?_
      obtain ⟨y5_0, y5_1, y5_2, y5_3, hy6, hf⟩ := bd4_some hf
      refine r_callV_v (As := [.ref (a_this_undone_F 7)]) (rest := []) (ws' := (w_X1_recall cyI cyZ cyW a_this a_this_undone v_this_newest v_this_size a_this_kept a_this_isKept a_p0 y5_0 y5_1 a_p0_healths a_p0_favourers a_this_undone_F v_this_undone_F_date v_this_undone_F_frozen a_this_undone_F_healths a_this_undone_F_favourers v_this_undone_F_healths y5_2 v_this_undone_F_favourers y5_3)) C (c_X7_copyFrom l D cyI cyZ cyW a_p0 v_p0_date v_p0_frozen a_p0_healths a_p0_favourers (a_this_undone_F 7) (v_this_undone_F_date 7) (v_this_undone_F_frozen 7) (a_this_undone_F_healths 7) (a_this_undone_F_favourers 7) (v_this_undone_F_healths 7) v_p0_healths (v_this_undone_F_favourers 7) v_p0_favourers (y5_0, y5_1, y5_2, y5_3) hy6) gX1_recall_X7_copyFrom rfl hyV_X7_copyFrom ⟨rfl, rfl, (Nat.le_of_ble_eq_true rfl), (Nat.le_of_ble_eq_true rfl)⟩ rfl 1 rfl rfl [1, 10, 18, 19, 27, 28] rfl rfl rfl rfl rfl (Nat.le_of_ble_eq_true rfl) ⟨Nat.zero_le _, Nat.zero_le _⟩ dX1_recall_17 ?_
      refine r_aload_n C dX1_recall_20 rfl 0 rfl ?_
      refine r_aload_n C dX1_recall_21 rfl 0 rfl ?_
      refine r_get C in_X1_recall_X1 0 rfl rfl 1 (by decide) lk_X1_recall_3 rfl rfl dX1_recall_22 ?_
      refine r_bipush C 8 dX1_recall_25 (by decide) ?_
      refine r_iadd C dX1_recall_27 ?_
      refine r_iconst C 1 dX1_recall_28 (by decide) ?_
      refine r_isub C dX1_recall_29 ?_
      refine r_bipush C 8 dX1_recall_30 (by decide) ?_
      refine r_irem C dX1_recall_32 (by decide) ?_
      refine r_put (ws' := (w_X1_recall cyI cyZ cyW a_this a_this_undone (((v_this_newest + 8) - 1) - ((v_this_newest + 8) - 1) / 8 * 8) v_this_size a_this_kept a_this_isKept a_p0 y5_0 y5_1 a_p0_healths a_p0_favourers a_this_undone_F v_this_undone_F_date v_this_undone_F_frozen a_this_undone_F_healths a_this_undone_F_favourers v_this_undone_F_healths y5_2 v_this_undone_F_favourers y5_3)) C in_X1_recall_X1 tyX1 tyX1_ok nmX1 0 rfl rfl 1 (by decide) lk_X1_recall_3 rfl rfl rfl rfl (Nat.le_of_ble_eq_true rfl) rfl dX1_recall_33 ?_
      refine r_aload_n C dX1_recall_36 rfl 0 rfl ?_
      refine r_dup C dX1_recall_37 rfl ?_
      refine r_get C in_X1_recall_X1 0 rfl rfl 2 (by decide) lk_X1_recall_1 rfl rfl dX1_recall_38 ?_
      refine r_iconst C 1 dX1_recall_41 (by decide) ?_
      refine r_isub C dX1_recall_42 ?_
      refine r_put (ws' := (w_X1_recall cyI cyZ cyW a_this a_this_undone (((v_this_newest + 8) - 1) - ((v_this_newest + 8) - 1) / 8 * 8) (v_this_size - 1) a_this_kept a_this_isKept a_p0 y5_0 y5_1 a_p0_healths a_p0_favourers a_this_undone_F v_this_undone_F_date v_this_undone_F_frozen a_this_undone_F_healths a_this_undone_F_favourers v_this_undone_F_healths y5_2 v_this_undone_F_favourers y5_3)) C in_X1_recall_X1 tyX1 tyX1_ok nmX1 0 rfl rfl 2 (by decide) lk_X1_recall_1 rfl rfl rfl rfl (Nat.le_of_ble_eq_true rfl) rfl dX1_recall_43 ?_
      rw [← Option.some.inj hf]
      exact r_vret C hr hlk dX1_recall_46

theorem lk_X6_add_1 : Cond.fieldLink RX6 22 "ParishCoat$Votes" "size" "I" ∈ wsX6_add := List.mem_of_getElem? (i := 1) rfl
theorem lk_X6_add_2 : Cond.fieldLink RX6 9 "ParishCoat$Votes" "sets" "[I" ∈ wsX6_add := List.mem_of_getElem? (i := 2) rfl
theorem lk_X6_add_3 : Cond.fieldLink RX6 15 "ParishCoat$Votes" "nights" "[Z" ∈ wsX6_add := List.mem_of_getElem? (i := 3) rfl
theorem lk_X6_add_4 : Cond.fieldLink RX6 19 "ParishCoat$Votes" "outcomes" "[Z" ∈ wsX6_add := List.mem_of_getElem? (i := 4) rfl
theorem in_X6_add_X6 : ∀ w ∈ u_ws RX6 TX6 4, w ∈ wsX6_add := fun _ h => List.mem_cons_of_mem _ (List.mem_append_right _ h)
def f_X6_add (v_this_size : Int32) (v_this_sets : Nat → Int32) (v_this_nights : Nat → Int32) (v_this_outcomes : Nat → Int32) (x1 : Int32) (x2 : Int32) (x3 : Int32) : Option (Int32 × (Nat → Int32) × (Nat → Int32) × (Nat → Int32)) := if 6 ≤ v_this_size then (some (v_this_size, v_this_sets, v_this_nights, v_this_outcomes)) else (gd_ v_this_size 6 (gd_ v_this_size 6 (gd_ v_this_size 6 (some ((v_this_size + 1), (upd v_this_sets (Int32.toNatClampNeg v_this_size) x1), (upd v_this_nights (Int32.toNatClampNeg v_this_size) (vp_nar .boolean x2)), (upd v_this_outcomes (Int32.toNatClampNeg v_this_size) (vp_nar .boolean x3)))))))
def w_X6_add (cyI cyZ cyW : ClassId) (a_this : Nat) (a_this_sets : Nat) (a_this_nights : Nat) (a_this_outcomes : Nat) (v_this_size : Int32) (v_this_sets : Nat → Int32) (v_this_nights : Nat → Int32) (v_this_outcomes : Nat → Int32) : va_W := [(a_this, .inr (6, [.ref a_this_sets, .ref a_this_nights, .ref a_this_outcomes, .int v_this_size])), (a_this_sets, .inl (cyI, 6, .inl v_this_sets)), (a_this_nights, .inl (cyZ, 6, .inl v_this_nights)), (a_this_outcomes, .inl (cyZ, 6, .inl v_this_outcomes))]
set_option maxHeartbeats 4000000 in
set_option maxRecDepth 100000 in
theorem c_X6_add (l : Launch) (D : va_G) (cyI cyZ cyW : ClassId) (a_this : Nat) (a_this_sets : Nat) (a_this_nights : Nat) (a_this_outcomes : Nat) (v_this_size : Int32) (v_this_sets : Nat → Int32) (v_this_nights : Nat → Int32) (v_this_outcomes : Nat → Int32) (x1 : Int32) (x2 : Int32) (x3 : Int32) (res : Int32 × (Nat → Int32) × (Nat → Int32) × (Nat → Int32)) (hf : f_X6_add v_this_size v_this_sets v_this_nights v_this_outcomes x1 x2 x3 = some res) : ∀ sz, Met l yX6_add wsX6_add { frames := 0, cells := 0, slots := 0, locals := 0 } (PCx D (tyG cyI cyZ cyW) [.ref a_this, .int x1, .int x2, .int x3] (w_X6_add cyI cyZ cyW a_this a_this_sets a_this_nights a_this_outcomes v_this_size v_this_sets v_this_nights v_this_outcomes) sz) (QV D (tyG cyI cyZ cyW) (w_X6_add cyI cyZ cyW a_this a_this_sets a_this_nights a_this_outcomes v_this_size v_this_sets v_this_nights v_this_outcomes) sz (w_X6_add cyI cyZ cyW a_this a_this_sets a_this_nights a_this_outcomes res.1 res.2.1 res.2.2.1 res.2.2.2)) 0 0 (va_A (w_X6_add cyI cyZ cyW a_this a_this_sets a_this_nights a_this_outcomes v_this_size v_this_sets v_this_nights v_this_outcomes) sz) := by
  intro sz
  refine met_of (cc := cX6_add) (maxL := 4) (ret := none) (lv0 := [(0, .ref a_this), (1, .int x1), (2, .int x2), (3, .int x3)]) (by decide) rfl ⟨(Nat.le_of_ble_eq_true rfl), rfl⟩ ?_
  intro p e s m below meth c C hr hlk hnm hsz
  subst hsz
  have C : CX p s m _ c 4 cX6_add RX6 wsX6_add D (tyG cyI cyZ cyW) _ := C
  refine r_aload_n C dX6_add_0 rfl 0 rfl ?_
  refine r_get C in_X6_add_X6 0 rfl rfl 3 (by decide) lk_X6_add_1 rfl rfl dX6_add_1 ?_
  refine r_bipush C 6 dX6_add_4 (by decide) ?_
  refine r_icmp_ge C 49 dX6_add_6 (by decide) hf (fun hf => ?_) (fun hf => ?_)
  · rw [← Option.some.inj hf]
    exact r_vret C hr hlk dX6_add_49
  · refine r_aload_n C dX6_add_9 rfl 0 rfl ?_
    refine r_get C in_X6_add_X6 0 rfl rfl 0 (by decide) lk_X6_add_2 rfl rfl dX6_add_10 ?_
    refine r_aload_n C dX6_add_13 rfl 0 rfl ?_
    refine r_get C in_X6_add_X6 0 rfl rfl 3 (by decide) lk_X6_add_1 rfl rfl dX6_add_14 ?_
    refine r_iload_n C dX6_add_17 rfl 1 rfl ?_
    obtain ⟨hi1, hf⟩ := gd_some hf
    refine r_iast (ws' := (w_X6_add cyI cyZ cyW a_this a_this_sets a_this_nights a_this_outcomes v_this_size (upd v_this_sets (Int32.toNatClampNeg v_this_size) x1) v_this_nights v_this_outcomes)) C 1 0 rfl rfl hi1 rfl dX6_add_18 ?_
    refine r_aload_n C dX6_add_19 rfl 0 rfl ?_
    refine r_get C in_X6_add_X6 0 rfl rfl 1 (by decide) lk_X6_add_3 rfl rfl dX6_add_20 ?_
    refine r_aload_n C dX6_add_23 rfl 0 rfl ?_
    refine r_get C in_X6_add_X6 0 rfl rfl 3 (by decide) lk_X6_add_1 rfl rfl dX6_add_24 ?_
    refine r_iload_n C dX6_add_27 rfl 2 rfl ?_
    obtain ⟨hi2, hf⟩ := gd_some hf
    refine r_zast (ws' := (w_X6_add cyI cyZ cyW a_this a_this_sets a_this_nights a_this_outcomes v_this_size (upd v_this_sets (Int32.toNatClampNeg v_this_size) x1) (upd v_this_nights (Int32.toNatClampNeg v_this_size) (vp_nar .boolean x2)) v_this_outcomes)) C 2 1 rfl rfl hi2 rfl dX6_add_28 ?_
    refine r_aload_n C dX6_add_29 rfl 0 rfl ?_
    refine r_get C in_X6_add_X6 0 rfl rfl 2 (by decide) lk_X6_add_4 rfl rfl dX6_add_30 ?_
    refine r_aload_n C dX6_add_33 rfl 0 rfl ?_
    refine r_get C in_X6_add_X6 0 rfl rfl 3 (by decide) lk_X6_add_1 rfl rfl dX6_add_34 ?_
    refine r_iload_n C dX6_add_37 rfl 3 rfl ?_
    obtain ⟨hi3, hf⟩ := gd_some hf
    refine r_zast (ws' := (w_X6_add cyI cyZ cyW a_this a_this_sets a_this_nights a_this_outcomes v_this_size (upd v_this_sets (Int32.toNatClampNeg v_this_size) x1) (upd v_this_nights (Int32.toNatClampNeg v_this_size) (vp_nar .boolean x2)) (upd v_this_outcomes (Int32.toNatClampNeg v_this_size) (vp_nar .boolean x3)))) C 3 1 rfl rfl hi3 rfl dX6_add_38 ?_
    refine r_aload_n C dX6_add_39 rfl 0 rfl ?_
    refine r_dup C dX6_add_40 rfl ?_
    refine r_get C in_X6_add_X6 0 rfl rfl 3 (by decide) lk_X6_add_1 rfl rfl dX6_add_41 ?_
    refine r_iconst C 1 dX6_add_44 (by decide) ?_
    refine r_iadd C dX6_add_45 ?_
    refine r_put (ws' := (w_X6_add cyI cyZ cyW a_this a_this_sets a_this_nights a_this_outcomes (v_this_size + 1) (upd v_this_sets (Int32.toNatClampNeg v_this_size) x1) (upd v_this_nights (Int32.toNatClampNeg v_this_size) (vp_nar .boolean x2)) (upd v_this_outcomes (Int32.toNatClampNeg v_this_size) (vp_nar .boolean x3)))) C in_X6_add_X6 tyX6 tyX6_ok nmX6 0 rfl rfl 3 (by decide) lk_X6_add_1 rfl rfl rfl rfl (Nat.le_of_ble_eq_true rfl) rfl dX6_add_46 ?_
    rw [← Option.some.inj hf]
    exact r_vret C hr hlk dX6_add_49

theorem lk_X6_agreeWith_1 : Cond.fieldLink RX6 22 "ParishCoat$Votes" "size" "I" ∈ wsX6_agreeWith := List.mem_of_getElem? (i := 1) rfl
theorem lk_X6_agreeWith_2 : Cond.fieldLink RX6 9 "ParishCoat$Votes" "sets" "[I" ∈ wsX6_agreeWith := List.mem_of_getElem? (i := 2) rfl
theorem lk_X6_agreeWith_3 : Cond.fieldLink RX6 15 "ParishCoat$Votes" "nights" "[Z" ∈ wsX6_agreeWith := List.mem_of_getElem? (i := 3) rfl
theorem lk_X6_agreeWith_4 : Cond.fieldLink RX6 19 "ParishCoat$Votes" "outcomes" "[Z" ∈ wsX6_agreeWith := List.mem_of_getElem? (i := 4) rfl
theorem in_X6_agreeWith_X6 : ∀ w ∈ u_ws RX6 TX6 4, w ∈ wsX6_agreeWith := fun _ h => List.mem_cons_of_mem _ (List.mem_append_left _ (List.mem_append_right _ h))
def f_X6_agreeWith_b35 (v_this_size : Int32) (v_p0_families : Int32) (v_this_sets : Nat → Int32) (v_this_nights : Nat → Int32) (v_p0_kinds : Nat → Int32) (v_this_outcomes : Nat → Int32) (k_2 : Int32 → Int32 → Option (Int32)) (x2 : Int32) (x3 : Int32) (s0 : Int32) : Option (Int32) := gd_ x3 6 (if s0 = (v_this_outcomes (Int32.toNatClampNeg x3)) then (k_2 x2 (x3 + 1)) else (some (0)))
def f_X6_agreeWith_s2 (v_this_size : Int32) (v_p0_families : Int32) (v_this_sets : Nat → Int32) (v_this_nights : Nat → Int32) (v_p0_kinds : Nat → Int32) (v_this_outcomes : Nat → Int32) (k_2 : Int32 → Int32 → Option (Int32)) (x2 : Int32) (x3 : Int32) : Option (Int32) := if v_this_size ≤ x3 then (some (1)) else (gd_ x3 6 (gd_ x3 6 ((f_X5_weightOfSet v_p0_families v_p0_kinds (v_this_sets (Int32.toNatClampNeg x3)) (v_this_nights (Int32.toNatClampNeg x3))).bind fun y3 => if y3 < x2 then (f_X6_agreeWith_b35 v_this_size v_p0_families v_this_sets v_this_nights v_p0_kinds v_this_outcomes k_2 x2 x3 0) else (f_X6_agreeWith_b35 v_this_size v_p0_families v_this_sets v_this_nights v_p0_kinds v_this_outcomes k_2 x2 x3 1))))
def f_X6_agreeWith_b2 (v_this_size : Int32) (v_p0_families : Int32) (v_this_sets : Nat → Int32) (v_this_nights : Nat → Int32) (v_p0_kinds : Nat → Int32) (v_this_outcomes : Nat → Int32) (n : Nat) : Int32 → Int32 → Option (Int32) := it_ (f_X6_agreeWith_s2 v_this_size v_p0_families v_this_sets v_this_nights v_p0_kinds v_this_outcomes ) (fun _ _ => none) n
def f_X6_agreeWith (v_this_size : Int32) (v_p0_families : Int32) (v_this_sets : Nat → Int32) (v_this_nights : Nat → Int32) (v_p0_kinds : Nat → Int32) (v_this_outcomes : Nat → Int32) (x2 : Int32) : Option (Int32) := f_X6_agreeWith_b2 v_this_size v_p0_families v_this_sets v_this_nights v_p0_kinds v_this_outcomes 5000 x2 0
def w_X6_agreeWith (cyI cyZ cyW : ClassId) (a_this : Nat) (a_this_sets : Nat) (a_this_nights : Nat) (a_this_outcomes : Nat) (v_this_size : Int32) (a_p0 : Nat) (v_p0_families : Int32) (v_p0_quota : Int32) (v_p0_coldCount : Int32) (a_p0_kinds : Nat) (a_p0_warmths : Nat) (a_p0_prices : Nat) (a_p0_favourers : Nat) (a_p0_colds : Nat) (v_this_sets : Nat → Int32) (v_this_nights : Nat → Int32) (v_p0_kinds : Nat → Int32) (v_this_outcomes : Nat → Int32) : va_W := [(a_this, .inr (6, [.ref a_this_sets, .ref a_this_nights, .ref a_this_outcomes, .int v_this_size])), (a_p0, .inr (5, [.int v_p0_families, .int v_p0_quota, .int v_p0_coldCount, .ref a_p0_kinds, .ref a_p0_warmths, .ref a_p0_prices, .ref a_p0_favourers, .ref a_p0_colds])), (a_this_sets, .inl (cyI, 6, .inl v_this_sets)), (a_this_nights, .inl (cyZ, 6, .inl v_this_nights)), (a_p0_kinds, .inl (cyI, 7, .inl v_p0_kinds)), (a_this_outcomes, .inl (cyZ, 6, .inl v_this_outcomes))]
set_option maxHeartbeats 4000000 in
set_option maxRecDepth 100000 in
theorem c_X6_agreeWith (l : Launch) (D : va_G) (cyI cyZ cyW : ClassId) (a_this : Nat) (a_this_sets : Nat) (a_this_nights : Nat) (a_this_outcomes : Nat) (v_this_size : Int32) (a_p0 : Nat) (v_p0_families : Int32) (v_p0_quota : Int32) (v_p0_coldCount : Int32) (a_p0_kinds : Nat) (a_p0_warmths : Nat) (a_p0_prices : Nat) (a_p0_favourers : Nat) (a_p0_colds : Nat) (v_this_sets : Nat → Int32) (v_this_nights : Nat → Int32) (v_p0_kinds : Nat → Int32) (v_this_outcomes : Nat → Int32) (x2 : Int32) (res : Int32) (hf : f_X6_agreeWith v_this_size v_p0_families v_this_sets v_this_nights v_p0_kinds v_this_outcomes x2 = some res) : ∀ sz, Met l yX6_agreeWith wsX6_agreeWith { frames := 2, cells := 0, slots := 0, locals := 46 } (PCx D (tyG cyI cyZ cyW) [.ref a_this, .ref a_p0, .int x2] (w_X6_agreeWith cyI cyZ cyW a_this a_this_sets a_this_nights a_this_outcomes v_this_size a_p0 v_p0_families v_p0_quota v_p0_coldCount a_p0_kinds a_p0_warmths a_p0_prices a_p0_favourers a_p0_colds v_this_sets v_this_nights v_p0_kinds v_this_outcomes) sz) (QI D (tyG cyI cyZ cyW) (w_X6_agreeWith cyI cyZ cyW a_this a_this_sets a_this_nights a_this_outcomes v_this_size a_p0 v_p0_families v_p0_quota v_p0_coldCount a_p0_kinds a_p0_warmths a_p0_prices a_p0_favourers a_p0_colds v_this_sets v_this_nights v_p0_kinds v_this_outcomes) sz res (w_X6_agreeWith cyI cyZ cyW a_this a_this_sets a_this_nights a_this_outcomes v_this_size a_p0 v_p0_families v_p0_quota v_p0_coldCount a_p0_kinds a_p0_warmths a_p0_prices a_p0_favourers a_p0_colds v_this_sets v_this_nights v_p0_kinds v_this_outcomes)) 0 0 (va_A (w_X6_agreeWith cyI cyZ cyW a_this a_this_sets a_this_nights a_this_outcomes v_this_size a_p0 v_p0_families v_p0_quota v_p0_coldCount a_p0_kinds a_p0_warmths a_p0_prices a_p0_favourers a_p0_colds v_this_sets v_this_nights v_p0_kinds v_this_outcomes) sz) := by
  intro sz
  refine met_of (cc := cX6_agreeWith) (maxL := 5) (ret := (some .boolean)) (lv0 := [(0, .ref a_this), (1, .ref a_p0), (2, .int x2)]) (by decide) rfl ⟨(Nat.le_of_ble_eq_true rfl), rfl⟩ ?_
  intro p e s m below meth c C hr hlk hnm hsz
  subst hsz
  have C : CX p s m _ c 5 cX6_agreeWith RX6 wsX6_agreeWith D (tyG cyI cyZ cyW) _ := C
  obtain ⟨Z, hZ⟩ : ∃ Z : va_W → Nat → LV → List Value → Prop, Z = ST p l e { frames := 2, cells := 0, slots := 0, locals := 46 } s m [.ref a_this, .ref a_p0, .int x2].toArray below meth c 5 D (va_A (w_X6_agreeWith cyI cyZ cyW a_this a_this_sets a_this_nights a_this_outcomes v_this_size a_p0 v_p0_families v_p0_quota v_p0_coldCount a_p0_kinds a_p0_warmths a_p0_prices a_p0_favourers a_p0_colds v_this_sets v_this_nights v_p0_kinds v_this_outcomes) s.heap.size) (MQ below (QI D (tyG cyI cyZ cyW) (w_X6_agreeWith cyI cyZ cyW a_this a_this_sets a_this_nights a_this_outcomes v_this_size a_p0 v_p0_families v_p0_quota v_p0_coldCount a_p0_kinds a_p0_warmths a_p0_prices a_p0_favourers a_p0_colds v_this_sets v_this_nights v_p0_kinds v_this_outcomes) s.heap.size res (w_X6_agreeWith cyI cyZ cyW a_this a_this_sets a_this_nights a_this_outcomes v_this_size a_p0 v_p0_families v_p0_quota v_p0_coldCount a_p0_kinds a_p0_warmths a_p0_prices a_p0_favourers a_p0_colds v_this_sets v_this_nights v_p0_kinds v_this_outcomes)) [.ref a_this, .ref a_p0, .int x2].toArray s 0 0 (va_A (w_X6_agreeWith cyI cyZ cyW a_this a_this_sets a_this_nights a_this_outcomes v_this_size a_p0 v_p0_families v_p0_quota v_p0_coldCount a_p0_kinds a_p0_warmths a_p0_prices a_p0_favourers a_p0_colds v_this_sets v_this_nights v_p0_kinds v_this_outcomes) s.heap.size)) 0 0 := ⟨_, rfl⟩
  have hb_35 : ∀ (k_2 : Int32 → Int32 → Option (Int32)), (∀ (x2 : Int32) (x3 : Int32), k_2 x2 x3 = some res → Z (w_X6_agreeWith cyI cyZ cyW a_this a_this_sets a_this_nights a_this_outcomes v_this_size a_p0 v_p0_families v_p0_quota v_p0_coldCount a_p0_kinds a_p0_warmths a_p0_prices a_p0_favourers a_p0_colds v_this_sets v_this_nights v_p0_kinds v_this_outcomes) 2 [(0, .ref a_this), (1, .ref a_p0), (2, .int x2), (3, .int x3)] []) → ∀ (x2 : Int32) (x3 : Int32) (s0 : Int32), f_X6_agreeWith_b35 v_this_size v_p0_families v_this_sets v_this_nights v_p0_kinds v_this_outcomes k_2 x2 x3 s0 = some res → Z (w_X6_agreeWith cyI cyZ cyW a_this a_this_sets a_this_nights a_this_outcomes v_this_size a_p0 v_p0_families v_p0_quota v_p0_coldCount a_p0_kinds a_p0_warmths a_p0_prices a_p0_favourers a_p0_colds v_this_sets v_this_nights v_p0_kinds v_this_outcomes) 35 [(0, .ref a_this), (1, .ref a_p0), (2, .int x2), (3, .int x3)] [.int s0] := by
    subst hZ
    intro k_2 hk_2 x2 x3 s0 hf
    refine r_istore (lv' := [(4, .int s0), (0, .ref a_this), (1, .ref a_p0), (2, .int x2), (3, .int x3)]) C dX6_agreeWith_35 (by decide) rfl ?_
    refine r_iload C dX6_agreeWith_37 0 rfl ?_
    refine r_aload_n C dX6_agreeWith_39 rfl 1 rfl ?_
    refine r_get C in_X6_agreeWith_X6 0 rfl rfl 2 (by decide) lk_X6_agreeWith_4 rfl rfl dX6_agreeWith_40 ?_
    refine r_iload_n C dX6_agreeWith_43 rfl 4 rfl ?_
    obtain ⟨hi5, hf⟩ := gd_some hf
    refine r_zald C 5 1 rfl rfl hi5 dX6_agreeWith_44 ?_
    refine r_icmp_eq C 50 dX6_agreeWith_45 (by decide) hf (fun hf => ?_) (fun hf => ?_)
    · refine r_iinc (v := 1) (k := 4) (lv' := [(3, .int (x3 + 1)), (4, .int s0), (0, .ref a_this), (1, .ref a_p0), (2, .int x2)]) C dX6_agreeWith_50 rfl (by decide) (by decide) rfl ?_
      refine r_goto C 2 dX6_agreeWith_53 (by decide) ?_
      exact ST_lv [2, 3, 4, 0] rfl (hk_2 x2 (x3 + 1) hf)
    · refine r_iconst C 0 dX6_agreeWith_48 (by decide) ?_
      rw [← Option.some.inj hf]
      exact r_zret (r := 0) C hr hlk rfl dX6_agreeWith_49
  have hs_2 : ∀ (k_2 : Int32 → Int32 → Option (Int32)), (∀ (x2 : Int32) (x3 : Int32), k_2 x2 x3 = some res → Z (w_X6_agreeWith cyI cyZ cyW a_this a_this_sets a_this_nights a_this_outcomes v_this_size a_p0 v_p0_families v_p0_quota v_p0_coldCount a_p0_kinds a_p0_warmths a_p0_prices a_p0_favourers a_p0_colds v_this_sets v_this_nights v_p0_kinds v_this_outcomes) 2 [(0, .ref a_this), (1, .ref a_p0), (2, .int x2), (3, .int x3)] []) → ∀ (x2 : Int32) (x3 : Int32), f_X6_agreeWith_s2 v_this_size v_p0_families v_this_sets v_this_nights v_p0_kinds v_this_outcomes k_2 x2 x3 = some res → Z (w_X6_agreeWith cyI cyZ cyW a_this a_this_sets a_this_nights a_this_outcomes v_this_size a_p0 v_p0_families v_p0_quota v_p0_coldCount a_p0_kinds a_p0_warmths a_p0_prices a_p0_favourers a_p0_colds v_this_sets v_this_nights v_p0_kinds v_this_outcomes) 2 [(0, .ref a_this), (1, .ref a_p0), (2, .int x2), (3, .int x3)] [] := by
    subst hZ
    intro k_2 hk_2 x2 x3 hf
    refine r_iload_n C dX6_agreeWith_2 rfl 3 rfl ?_
    refine r_aload_n C dX6_agreeWith_3 rfl 0 rfl ?_
    refine r_get C in_X6_agreeWith_X6 0 rfl rfl 3 (by decide) lk_X6_agreeWith_1 rfl rfl dX6_agreeWith_4 ?_
    refine r_icmp_ge C 56 dX6_agreeWith_7 (by decide) hf (fun hf => ?_) (fun hf => ?_)
    · refine r_iconst C 1 dX6_agreeWith_56 (by decide) ?_
      rw [← Option.some.inj hf]
      exact r_zret (r := 1) C hr hlk rfl dX6_agreeWith_57
    · refine r_aload_n C dX6_agreeWith_10 rfl 1 rfl ?_
      refine r_aload_n C dX6_agreeWith_11 rfl 0 rfl ?_
      refine r_get C in_X6_agreeWith_X6 0 rfl rfl 0 (by decide) lk_X6_agreeWith_2 rfl rfl dX6_agreeWith_12 ?_
      refine r_iload_n C dX6_agreeWith_15 rfl 3 rfl ?_
      obtain ⟨hi1, hf⟩ := gd_some hf
      refine r_iald C 2 0 rfl rfl hi1 dX6_agreeWith_16 ?_
      refine r_aload_n C dX6_agreeWith_17 rfl 0 rfl ?_
      refine r_get C in_X6_agreeWith_X6 0 rfl rfl 1 (by decide) lk_X6_agreeWith_3 rfl rfl dX6_agreeWith_18 ?_
      refine r_iload_n C dX6_agreeWith_21 rfl 3 rfl ?_
      obtain ⟨hi2, hf⟩ := gd_some hf
      refine r_zald C 3 1 rfl rfl hi2 dX6_agreeWith_22 ?_
      obtain ⟨y3, hy4, hf⟩ := bd_some hf
      refine r_roV_i (As := [.int (v_this_sets (Int32.toNatClampNeg x3)), .int (v_this_nights (Int32.toNatClampNeg x3))]) (rest := []) C (c_X5_weightOfSet l D cyI cyZ cyW a_p0 v_p0_families v_p0_quota v_p0_coldCount a_p0_kinds a_p0_warmths a_p0_prices a_p0_favourers a_p0_colds v_p0_kinds (v_this_sets (Int32.toNatClampNeg x3)) (v_this_nights (Int32.toNatClampNeg x3)) y3 hy4) gX6_agreeWith_X5_weightOfSet rfl hyV_X5_weightOfSet ⟨rfl, rfl, (Nat.le_of_ble_eq_true rfl), (Nat.le_of_ble_eq_true rfl)⟩ rfl 1 rfl rfl [1, 4] rfl rfl rfl (Nat.le_of_ble_eq_true rfl) ⟨Nat.zero_le _, Nat.zero_le _⟩ dX6_agreeWith_23 ?_
      refine r_iload_n C dX6_agreeWith_26 rfl 2 rfl ?_
      refine r_icmp_lt C 34 dX6_agreeWith_27 (by decide) hf (fun hf => ?_) (fun hf => ?_)
      · refine r_iconst C 0 dX6_agreeWith_34 (by decide) ?_
        exact ST_lv [0, 1, 2, 3] rfl (hb_35 k_2 hk_2 x2 x3 0 hf)
      · refine r_iconst C 1 dX6_agreeWith_30 (by decide) ?_
        refine r_goto C 35 dX6_agreeWith_31 (by decide) ?_
        exact ST_lv [0, 1, 2, 3] rfl (hb_35 k_2 hk_2 x2 x3 1 hf)
  have hb_2 : ∀ (n : Nat) (x2 : Int32) (x3 : Int32), f_X6_agreeWith_b2 v_this_size v_p0_families v_this_sets v_this_nights v_p0_kinds v_this_outcomes n x2 x3 = some res → Z (w_X6_agreeWith cyI cyZ cyW a_this a_this_sets a_this_nights a_this_outcomes v_this_size a_p0 v_p0_families v_p0_quota v_p0_coldCount a_p0_kinds a_p0_warmths a_p0_prices a_p0_favourers a_p0_colds v_this_sets v_this_nights v_p0_kinds v_this_outcomes) 2 [(0, .ref a_this), (1, .ref a_p0), (2, .int x2), (3, .int x3)] [] := by
    intro  n
    induction n with
    | zero => intro x2 x3 hf; exact nn_ hf
    | succ n ih => exact fun x2 x3 hf => hs_2 _ ih x2 x3 hf
  subst hZ
  refine r_iconst C 0 dX6_agreeWith_0 (by decide) ?_
  refine r_istore_n (lv' := [(3, .int 0), (0, .ref a_this), (1, .ref a_p0), (2, .int x2)]) C dX6_agreeWith_1 rfl (by decide) rfl ?_
  exact ST_lv [1, 2, 3, 0] rfl (hb_2 5000 x2 0 hf)

theorem lk_X4_take_1 : Cond.fieldLink RX4 34 "ParishCoat$Smallest" "families" "I" ∈ wsX4_take := List.mem_of_getElem? (i := 1) rfl
theorem lk_X4_take_16 : Cond.static yX8_holds ∈ wsX4_take := List.mem_of_getElem? (i := 16) rfl
theorem lk_X4_take_17 : Cond.initialized RX8 ∈ wsX4_take := List.mem_of_getElem? (i := 17) rfl
theorem lk_X4_take_2 : Cond.fieldLink RX4 37 "ParishCoat$Smallest" "sets" "I" ∈ wsX4_take := List.mem_of_getElem? (i := 2) rfl
theorem lk_X4_take_3 : Cond.fieldLink RX4 59 "ParishCoat$Smallest" "least" "I" ∈ wsX4_take := List.mem_of_getElem? (i := 3) rfl
theorem lk_X4_take_4 : Cond.fieldLink RX4 9 "ParishCoat$Smallest" "timesIn" "[I" ∈ wsX4_take := List.mem_of_getElem? (i := 4) rfl
theorem in_X4_take_X4 : ∀ w ∈ u_ws RX4 TX4 4, w ∈ wsX4_take := fun _ h => List.mem_cons_of_mem _ (List.mem_append_right _ h)
theorem hyV_J6_bitCount_0f7a4 : yJ6_bitCount_0f7a4.cls = RJ6 ∧ yJ6_bitCount_0f7a4.cls ≠ "java/lang/invoke/MethodHandle" ∧ yJ6_bitCount_0f7a4.cls ≠ "java/lang/invoke/VarHandle" ∧ (parseMethodDescriptor yJ6_bitCount_0f7a4.desc).map (fun d => d.parameters.length) = some 1 := by decide +kernel
theorem hyS_J6_bitCount_0f7a4 : yJ6_bitCount_0f7a4.cls ≠ "java/lang/invoke/MethodHandle" ∧ yJ6_bitCount_0f7a4.cls ≠ "java/lang/invoke/VarHandle" ∧ (parseMethodDescriptor yJ6_bitCount_0f7a4.desc).map (fun d => d.parameters.length) = some 1 := by decide +kernel
theorem hyV_J7_fill_53178 : yJ7_fill_53178.cls = RJ7 ∧ yJ7_fill_53178.cls ≠ "java/lang/invoke/MethodHandle" ∧ yJ7_fill_53178.cls ≠ "java/lang/invoke/VarHandle" ∧ (parseMethodDescriptor yJ7_fill_53178.desc).map (fun d => d.parameters.length) = some 2 := by decide +kernel
theorem hyS_J7_fill_53178 : yJ7_fill_53178.cls ≠ "java/lang/invoke/MethodHandle" ∧ yJ7_fill_53178.cls ≠ "java/lang/invoke/VarHandle" ∧ (parseMethodDescriptor yJ7_fill_53178.desc).map (fun d => d.parameters.length) = some 2 := by decide +kernel
def f_X4_take_b82 (k_49 : Int32 → Int32 → Int32 → Int32 → Int32 → Int32 → (Nat → Int32) → Option (Int32 × Int32 × Int32 × (Nat → Int32))) (x1 : Int32) (x2 : Int32) (x4 : Int32) (v_this_families : Int32) (v_this_sets : Int32) (v_this_least : Int32) (v_this_timesIn : Nat → Int32) : Option (Int32 × Int32 × Int32 × (Nat → Int32)) := k_49 x1 x2 (x4 + 1) v_this_families v_this_sets v_this_least v_this_timesIn
def f_X4_take_s49 (k_49 : Int32 → Int32 → Int32 → Int32 → Int32 → Int32 → (Nat → Int32) → Option (Int32 × Int32 × Int32 × (Nat → Int32))) (x1 : Int32) (x2 : Int32) (x4 : Int32) (v_this_families : Int32) (v_this_sets : Int32) (v_this_least : Int32) (v_this_timesIn : Nat → Int32) : Option (Int32 × Int32 × Int32 × (Nat → Int32)) := if 7 ≤ x4 then (some (v_this_families, v_this_sets, v_this_least, v_this_timesIn)) else (if x4 = x2 then (f_X4_take_b82 k_49 x1 x2 x4 v_this_families v_this_sets v_this_least v_this_timesIn) else ((f_X8_holds x1 x4).bind fun y5 => if y5 = 0 then (f_X4_take_b82 k_49 x1 x2 x4 v_this_families v_this_sets v_this_least v_this_timesIn) else (gd_ x4 7 (gd_ x4 7 (f_X4_take_b82 k_49 x1 x2 x4 v_this_families v_this_sets v_this_least (upd v_this_timesIn (Int32.toNatClampNeg x4) ((v_this_timesIn (Int32.toNatClampNeg x4)) + 1)))))))
def f_X4_take_b49 (n : Nat) : Int32 → Int32 → Int32 → Int32 → Int32 → Int32 → (Nat → Int32) → Option (Int32 × Int32 × Int32 × (Nat → Int32)) := it_ (f_X4_take_s49 ) (fun _ _ _ _ _ _ _ => none) n
def f_X4_take_b36 (x1 : Int32) (x2 : Int32) (v_this_families : Int32) (v_this_sets : Int32) (v_this_least : Int32) (v_this_timesIn : Nat → Int32) : Option (Int32 × Int32 × Int32 × (Nat → Int32)) := f_X4_take_b49 5000 x1 x2 0 v_this_families (v_this_sets + 1) v_this_least v_this_timesIn
def f_X4_take (v_this_families : Int32) (v_this_sets : Int32) (v_this_least : Int32) (v_this_timesIn : Nat → Int32) (x1 : Int32) (x2 : Int32) : Option (Int32 × Int32 × Int32 × (Nat → Int32)) := (f_J6_bitCount_0f7a4 x1).bind fun y1 => if v_this_families ≤ y1 then (f_X4_take_b36 x1 x2 v_this_families v_this_sets v_this_least v_this_timesIn) else ((f_J7_fill_53178 v_this_timesIn 0).bind fun y3 => f_X4_take_b36 x1 x2 y1 0 x1 y3)
def w_X4_take (cyI cyZ cyW : ClassId) (a_this : Nat) (v_this_families : Int32) (v_this_sets : Int32) (v_this_least : Int32) (a_this_timesIn : Nat) (v_this_timesIn : Nat → Int32) : va_W := [(a_this, .inr (4, [.int v_this_families, .int v_this_sets, .int v_this_least, .ref a_this_timesIn])), (a_this_timesIn, .inl (cyI, 7, .inl v_this_timesIn))]
set_option maxHeartbeats 4000000 in
set_option maxRecDepth 100000 in
theorem c_X4_take (l : Launch) (D : va_G) (cyI cyZ cyW : ClassId) (a_this : Nat) (v_this_families : Int32) (v_this_sets : Int32) (v_this_least : Int32) (a_this_timesIn : Nat) (v_this_timesIn : Nat → Int32) (x1 : Int32) (x2 : Int32) (res : Int32 × Int32 × Int32 × (Nat → Int32)) (hf : f_X4_take v_this_families v_this_sets v_this_least v_this_timesIn x1 x2 = some res) : ∀ sz, Met l yX4_take wsX4_take { frames := 1, cells := 0, slots := 0, locals := 23 } (PCx D (tyG cyI cyZ cyW) [.ref a_this, .int x1, .int x2] (w_X4_take cyI cyZ cyW a_this v_this_families v_this_sets v_this_least a_this_timesIn v_this_timesIn) sz) (QV D (tyG cyI cyZ cyW) (w_X4_take cyI cyZ cyW a_this v_this_families v_this_sets v_this_least a_this_timesIn v_this_timesIn) sz (w_X4_take cyI cyZ cyW a_this res.1 res.2.1 res.2.2.1 a_this_timesIn res.2.2.2)) 0 0 (va_A (w_X4_take cyI cyZ cyW a_this v_this_families v_this_sets v_this_least a_this_timesIn v_this_timesIn) sz) := by
  intro sz
  refine met_of (cc := cX4_take) (maxL := 5) (ret := none) (lv0 := [(0, .ref a_this), (1, .int x1), (2, .int x2)]) (by decide) rfl ⟨(Nat.le_of_ble_eq_true rfl), rfl⟩ ?_
  intro p e s m below meth c C hr hlk hnm hsz
  subst hsz
  have C : CX p s m _ c 5 cX4_take RX4 wsX4_take D (tyG cyI cyZ cyW) _ := C
  obtain ⟨Z, hZ⟩ : ∃ Z : va_W → Nat → LV → List Value → Prop, Z = ST p l e { frames := 1, cells := 0, slots := 0, locals := 23 } s m [.ref a_this, .int x1, .int x2].toArray below meth c 5 D (va_A (w_X4_take cyI cyZ cyW a_this v_this_families v_this_sets v_this_least a_this_timesIn v_this_timesIn) s.heap.size) (MQ below (QV D (tyG cyI cyZ cyW) (w_X4_take cyI cyZ cyW a_this v_this_families v_this_sets v_this_least a_this_timesIn v_this_timesIn) s.heap.size (w_X4_take cyI cyZ cyW a_this res.1 res.2.1 res.2.2.1 a_this_timesIn res.2.2.2)) [.ref a_this, .int x1, .int x2].toArray s 0 0 (va_A (w_X4_take cyI cyZ cyW a_this v_this_families v_this_sets v_this_least a_this_timesIn v_this_timesIn) s.heap.size)) 0 0 := ⟨_, rfl⟩
  have hb_82 : ∀ (k_49 : Int32 → Int32 → Int32 → Int32 → Int32 → Int32 → (Nat → Int32) → Option (Int32 × Int32 × Int32 × (Nat → Int32))), (∀ (x1 : Int32) (x2 : Int32) (x4 : Int32) (v_this_families : Int32) (v_this_sets : Int32) (v_this_least : Int32) (v_this_timesIn : Nat → Int32), k_49 x1 x2 x4 v_this_families v_this_sets v_this_least v_this_timesIn = some res → Z (w_X4_take cyI cyZ cyW a_this v_this_families v_this_sets v_this_least a_this_timesIn v_this_timesIn) 49 [(0, .ref a_this), (1, .int x1), (2, .int x2), (4, .int x4)] []) → ∀ (x1 : Int32) (x2 : Int32) (x4 : Int32) (v_this_families : Int32) (v_this_sets : Int32) (v_this_least : Int32) (v_this_timesIn : Nat → Int32), f_X4_take_b82 k_49 x1 x2 x4 v_this_families v_this_sets v_this_least v_this_timesIn = some res → Z (w_X4_take cyI cyZ cyW a_this v_this_families v_this_sets v_this_least a_this_timesIn v_this_timesIn) 82 [(0, .ref a_this), (1, .int x1), (2, .int x2), (4, .int x4)] [] := by
    subst hZ
    intro k_49 hk_49 x1 x2 x4 v_this_families v_this_sets v_this_least v_this_timesIn hf
    refine r_iinc (v := 1) (k := 3) (lv' := [(4, .int (x4 + 1)), (0, .ref a_this), (1, .int x1), (2, .int x2)]) C dX4_take_82 rfl (by decide) (by decide) rfl ?_
    refine r_goto C 49 dX4_take_85 (by decide) ?_
    exact ST_lv [1, 2, 3, 0] rfl (hk_49 x1 x2 (x4 + 1) v_this_families v_this_sets v_this_least v_this_timesIn hf)
  have hs_49 : ∀ (k_49 : Int32 → Int32 → Int32 → Int32 → Int32 → Int32 → (Nat → Int32) → Option (Int32 × Int32 × Int32 × (Nat → Int32))), (∀ (x1 : Int32) (x2 : Int32) (x4 : Int32) (v_this_families : Int32) (v_this_sets : Int32) (v_this_least : Int32) (v_this_timesIn : Nat → Int32), k_49 x1 x2 x4 v_this_families v_this_sets v_this_least v_this_timesIn = some res → Z (w_X4_take cyI cyZ cyW a_this v_this_families v_this_sets v_this_least a_this_timesIn v_this_timesIn) 49 [(0, .ref a_this), (1, .int x1), (2, .int x2), (4, .int x4)] []) → ∀ (x1 : Int32) (x2 : Int32) (x4 : Int32) (v_this_families : Int32) (v_this_sets : Int32) (v_this_least : Int32) (v_this_timesIn : Nat → Int32), f_X4_take_s49 k_49 x1 x2 x4 v_this_families v_this_sets v_this_least v_this_timesIn = some res → Z (w_X4_take cyI cyZ cyW a_this v_this_families v_this_sets v_this_least a_this_timesIn v_this_timesIn) 49 [(0, .ref a_this), (1, .int x1), (2, .int x2), (4, .int x4)] [] := by
    subst hZ
    intro k_49 hk_49 x1 x2 x4 v_this_families v_this_sets v_this_least v_this_timesIn hf
    refine r_iload C dX4_take_49 3 rfl ?_
    refine r_bipush C 7 dX4_take_51 (by decide) ?_
    refine r_icmp_ge C 88 dX4_take_53 (by decide) hf (fun hf => ?_) (fun hf => ?_)
    · rw [← Option.some.inj hf]
      exact r_vret C hr hlk dX4_take_88
    · refine r_iload C dX4_take_56 3 rfl ?_
      refine r_iload_n C dX4_take_58 rfl 2 rfl ?_
      refine r_icmp_eq C 82 dX4_take_59 (by decide) hf (fun hf => ?_) (fun hf => ?_)
      · exact ST_lv [0, 1, 2, 3] rfl (hb_82 k_49 hk_49 x1 x2 x4 v_this_families v_this_sets v_this_least v_this_timesIn hf)
      · refine r_iload_n C dX4_take_62 rfl 1 rfl ?_
        refine r_iload C dX4_take_63 3 rfl ?_
        obtain ⟨y5, hy6, hf⟩ := bd_some hf
        refine r_roSN_i (As := [.int x1, .int x4]) (rest := []) C (c_X8_holds l D cyI cyZ cyW x1 x4 y5 hy6) gX4_take_X8_holds_n44 6 rfl lk_X4_take_17 lk_X4_take_16 rfl hyS_X8_holds ⟨rfl, rfl, (Nat.le_of_ble_eq_true rfl), (Nat.le_of_ble_eq_true rfl)⟩ rfl [] rfl rfl rfl (Nat.le_of_ble_eq_true rfl) ⟨Nat.zero_le _, Nat.zero_le _⟩ dX4_take_65 ?_
        refine r_if_eq C 82 dX4_take_68 (by decide) hf (fun hf => ?_) (fun hf => ?_)
        · exact ST_lv [0, 1, 2, 3] rfl (hb_82 k_49 hk_49 x1 x2 x4 v_this_families v_this_sets v_this_least v_this_timesIn hf)
        · refine r_aload_n C dX4_take_71 rfl 0 rfl ?_
          refine r_get C in_X4_take_X4 0 rfl rfl 3 (by decide) lk_X4_take_4 rfl rfl dX4_take_72 ?_
          refine r_iload C dX4_take_75 3 rfl ?_
          refine r_dup2_11 C dX4_take_77 rfl rfl ?_
          obtain ⟨hi7, hf⟩ := gd_some hf
          refine r_iald C 1 0 rfl rfl hi7 dX4_take_78 ?_
          refine r_iconst C 1 dX4_take_79 (by decide) ?_
          refine r_iadd C dX4_take_80 ?_
          obtain ⟨hi8, hf⟩ := gd_some hf
          refine r_iast (ws' := (w_X4_take cyI cyZ cyW a_this v_this_families v_this_sets v_this_least a_this_timesIn (upd v_this_timesIn (Int32.toNatClampNeg x4) ((v_this_timesIn (Int32.toNatClampNeg x4)) + 1)))) C 1 0 rfl rfl hi8 rfl dX4_take_81 ?_
          exact ST_lv [0, 1, 2, 3] rfl (hb_82 k_49 hk_49 x1 x2 x4 v_this_families v_this_sets v_this_least (upd v_this_timesIn (Int32.toNatClampNeg x4) ((v_this_timesIn (Int32.toNatClampNeg x4)) + 1)) hf)
  have hb_49 : ∀ (n : Nat) (x1 : Int32) (x2 : Int32) (x4 : Int32) (v_this_families : Int32) (v_this_sets : Int32) (v_this_least : Int32) (v_this_timesIn : Nat → Int32), f_X4_take_b49 n x1 x2 x4 v_this_families v_this_sets v_this_least v_this_timesIn = some res → Z (w_X4_take cyI cyZ cyW a_this v_this_families v_this_sets v_this_least a_this_timesIn v_this_timesIn) 49 [(0, .ref a_this), (1, .int x1), (2, .int x2), (4, .int x4)] [] := by
    intro  n
    induction n with
    | zero => intro x1 x2 x4 v_this_families v_this_sets v_this_least v_this_timesIn hf; exact nn_ hf
    | succ n ih => exact fun x1 x2 x4 v_this_families v_this_sets v_this_least v_this_timesIn hf => hs_49 _ ih x1 x2 x4 v_this_families v_this_sets v_this_least v_this_timesIn hf
  have hb_36 : ∀ (x1 : Int32) (x2 : Int32) (v_this_families : Int32) (v_this_sets : Int32) (v_this_least : Int32) (v_this_timesIn : Nat → Int32), f_X4_take_b36 x1 x2 v_this_families v_this_sets v_this_least v_this_timesIn = some res → Z (w_X4_take cyI cyZ cyW a_this v_this_families v_this_sets v_this_least a_this_timesIn v_this_timesIn) 36 [(0, .ref a_this), (1, .int x1), (2, .int x2)] [] := by
    subst hZ
    intro x1 x2 v_this_families v_this_sets v_this_least v_this_timesIn hf
    refine r_aload_n C dX4_take_36 rfl 0 rfl ?_
    refine r_dup C dX4_take_37 rfl ?_
    refine r_get C in_X4_take_X4 0 rfl rfl 1 (by decide) lk_X4_take_2 rfl rfl dX4_take_38 ?_
    refine r_iconst C 1 dX4_take_41 (by decide) ?_
    refine r_iadd C dX4_take_42 ?_
    refine r_put (ws' := (w_X4_take cyI cyZ cyW a_this v_this_families (v_this_sets + 1) v_this_least a_this_timesIn v_this_timesIn)) C in_X4_take_X4 tyX4 tyX4_ok nmX4 0 rfl rfl 1 (by decide) lk_X4_take_2 rfl rfl rfl rfl (Nat.le_of_ble_eq_true rfl) rfl dX4_take_43 ?_
    refine r_iconst C 0 dX4_take_46 (by decide) ?_
    refine r_istore (lv' := [(4, .int 0), (0, .ref a_this), (1, .int x1), (2, .int x2)]) C dX4_take_47 (by decide) rfl ?_
    exact ST_lv [1, 2, 3, 0] rfl (hb_49 5000 x1 x2 0 v_this_families (v_this_sets + 1) v_this_least v_this_timesIn hf)
  subst hZ
  refine r_iload_n C dX4_take_0 rfl 1 rfl ?_
  obtain ⟨y1, hy2, hf⟩ := bd_some hf
  refine r_roS_i (As := [.int x1]) (rest := []) C (c_J6_bitCount_0f7a4 l D cyI cyZ cyW x1 y1 hy2) gX4_take_J6_bitCount_0f7a4 rfl hyS_J6_bitCount_0f7a4 ⟨rfl, rfl, (Nat.le_of_ble_eq_true rfl), (Nat.le_of_ble_eq_true rfl)⟩ rfl [] rfl rfl rfl (Nat.le_of_ble_eq_true rfl) ⟨Nat.zero_le _, Nat.zero_le _⟩ dX4_take_1 ?_
  refine r_istore_n (lv' := [(3, .int y1), (0, .ref a_this), (1, .int x1), (2, .int x2)]) C dX4_take_4 rfl (by decide) rfl ?_
  refine r_iload_n C dX4_take_5 rfl 0 rfl ?_
  refine r_aload_n C dX4_take_6 rfl 1 rfl ?_
  refine r_get C in_X4_take_X4 0 rfl rfl 0 (by decide) lk_X4_take_1 rfl rfl dX4_take_7 ?_
  refine r_icmp_ge C 36 dX4_take_10 (by decide) hf (fun hf => ?_) (fun hf => ?_)
  · exact ST_lv [1, 2, 3] rfl (hb_36 x1 x2 v_this_families v_this_sets v_this_least v_this_timesIn hf)
  · refine r_aload_n C dX4_take_13 rfl 1 rfl ?_
    refine r_iload_n C dX4_take_14 rfl 0 rfl ?_
    refine r_put (ws' := (w_X4_take cyI cyZ cyW a_this y1 v_this_sets v_this_least a_this_timesIn v_this_timesIn)) C in_X4_take_X4 tyX4 tyX4_ok nmX4 0 rfl rfl 0 (by decide) lk_X4_take_1 rfl rfl rfl rfl (Nat.le_of_ble_eq_true rfl) rfl dX4_take_15 ?_
    refine r_aload_n C dX4_take_18 rfl 1 rfl ?_
    refine r_iconst C 0 dX4_take_19 (by decide) ?_
    refine r_put (ws' := (w_X4_take cyI cyZ cyW a_this y1 0 v_this_least a_this_timesIn v_this_timesIn)) C in_X4_take_X4 tyX4 tyX4_ok nmX4 0 rfl rfl 1 (by decide) lk_X4_take_2 rfl rfl rfl rfl (Nat.le_of_ble_eq_true rfl) rfl dX4_take_20 ?_
    refine r_aload_n C dX4_take_23 rfl 1 rfl ?_
    refine r_iload_n C dX4_take_24 rfl 2 rfl ?_
    refine r_put (ws' := (w_X4_take cyI cyZ cyW a_this y1 0 x1 a_this_timesIn v_this_timesIn)) C in_X4_take_X4 tyX4 tyX4_ok nmX4 0 rfl rfl 2 (by decide) lk_X4_take_3 rfl rfl rfl rfl (Nat.le_of_ble_eq_true rfl) rfl dX4_take_25 ?_
    refine r_aload_n C dX4_take_28 rfl 1 rfl ?_
    refine r_get C in_X4_take_X4 0 rfl rfl 3 (by decide) lk_X4_take_4 rfl rfl dX4_take_29 ?_
    refine r_iconst C 0 dX4_take_32 (by decide) ?_
    obtain ⟨y3, hy4, hf⟩ := bd_some hf
    refine r_callS_v (As := [.ref a_this_timesIn, .int 0]) (rest := []) (ws' := (w_X4_take cyI cyZ cyW a_this y1 0 x1 a_this_timesIn y3)) C (c_J7_fill_53178 l D cyI cyZ cyW a_this_timesIn v_this_timesIn 0 y3 hy4) gX4_take_J7_fill_53178 rfl hyS_J7_fill_53178 ⟨rfl, rfl, (Nat.le_of_ble_eq_true rfl), (Nat.le_of_ble_eq_true rfl)⟩ rfl [1] rfl rfl rfl rfl rfl (Nat.le_of_ble_eq_true rfl) ⟨Nat.zero_le _, Nat.zero_le _⟩ dX4_take_33 ?_
    exact ST_lv [1, 2, 3] rfl (hb_36 x1 x2 y1 0 x1 y3 hf)

theorem lk_X4_search_1 : Cond.fieldLink RX4 15 "ParishCoat$Winter" "date" "I" ∈ wsX4_search := List.mem_of_getElem? (i := 1) rfl
theorem lk_X4_search_18 : Cond.initialized RX8 ∈ wsX4_search := List.mem_of_getElem? (i := 18) rfl
theorem lk_X4_search_2 : Cond.fieldLink RX4 31 "ParishCoat$Winter" "frozen" "I" ∈ wsX4_search := List.mem_of_getElem? (i := 2) rfl
theorem lk_X4_search_20 : Cond.static yX8_isWithin ∈ wsX4_search := List.mem_of_getElem? (i := 20) rfl
theorem lk_X4_search_22 : Cond.static yX8_holds ∈ wsX4_search := List.mem_of_getElem? (i := 22) rfl
theorem lk_X4_search_3 : Cond.fieldLink RX4 34 "ParishCoat$Smallest" "families" "I" ∈ wsX4_search := List.mem_of_getElem? (i := 3) rfl
theorem lk_X4_search_4 : Cond.fieldLink RX4 37 "ParishCoat$Smallest" "sets" "I" ∈ wsX4_search := List.mem_of_getElem? (i := 4) rfl
theorem in_X4_search_X4 : ∀ w ∈ u_ws RX4 TX4 4, w ∈ wsX4_search := fun _ h => List.mem_cons_of_mem _ (List.mem_append_left _ (List.mem_append_right _ h))
theorem in_X4_search_X7 : ∀ w ∈ u_ws RX7 TX7 4, w ∈ wsX4_search := fun _ h => List.mem_cons_of_mem _ (List.mem_append_left _ (List.mem_append_left _ (List.mem_append_right _ h)))
theorem hyV_X5_all : yX5_all.cls = RX5 ∧ yX5_all.cls ≠ "java/lang/invoke/MethodHandle" ∧ yX5_all.cls ≠ "java/lang/invoke/VarHandle" ∧ (parseMethodDescriptor yX5_all.desc).map (fun d => d.parameters.length) = some 0 := by decide +kernel
theorem hyS_X5_all : yX5_all.cls ≠ "java/lang/invoke/MethodHandle" ∧ yX5_all.cls ≠ "java/lang/invoke/VarHandle" ∧ (parseMethodDescriptor yX5_all.desc).map (fun d => d.parameters.length) = some 0 := by decide +kernel
theorem hyV_X8_isWithin : yX8_isWithin.cls = RX8 ∧ yX8_isWithin.cls ≠ "java/lang/invoke/MethodHandle" ∧ yX8_isWithin.cls ≠ "java/lang/invoke/VarHandle" ∧ (parseMethodDescriptor yX8_isWithin.desc).map (fun d => d.parameters.length) = some 2 := by decide +kernel
theorem hyS_X8_isWithin : yX8_isWithin.cls ≠ "java/lang/invoke/MethodHandle" ∧ yX8_isWithin.cls ≠ "java/lang/invoke/VarHandle" ∧ (parseMethodDescriptor yX8_isWithin.desc).map (fun d => d.parameters.length) = some 2 := by decide +kernel
theorem hyV_X4_take : yX4_take.cls = RX4 ∧ yX4_take.cls ≠ "java/lang/invoke/MethodHandle" ∧ yX4_take.cls ≠ "java/lang/invoke/VarHandle" ∧ (parseMethodDescriptor yX4_take.desc).map (fun d => d.parameters.length) = some 2 := by decide +kernel
theorem hyS_X4_take : yX4_take.cls ≠ "java/lang/invoke/MethodHandle" ∧ yX4_take.cls ≠ "java/lang/invoke/VarHandle" ∧ (parseMethodDescriptor yX4_take.desc).map (fun d => d.parameters.length) = some 2 := by decide +kernel
def f_X4_search_b107 (v_p0_families : Int32) (v_p0_coldCount : Int32) (v_p1_date : Int32) (v_p1_frozen : Int32) (v_p0_colds : Nat → Int32) (v_p0_warmths : Nat → Int32) (k_37 : Int32 → Int32 → Int32 → Int32 → Int32 → Int32 → Int32 → (Nat → Int32) → Option (Int32 × Int32 × Int32 × (Nat → Int32))) (x3 : Int32) (x4 : Int32) (x5 : Int32) (x6 : Int32) (v_this_families : Int32) (v_this_sets : Int32) (v_this_least : Int32) (v_this_timesIn : Nat → Int32) : Option (Int32 × Int32 × Int32 × (Nat → Int32)) := k_37 x3 x4 x5 (x6 + 1) v_this_families v_this_sets v_this_least v_this_timesIn
def f_X4_search_b70 (v_p0_families : Int32) (v_p0_coldCount : Int32) (v_p1_date : Int32) (v_p1_frozen : Int32) (v_p0_colds : Nat → Int32) (v_p0_warmths : Nat → Int32) (k_37 : Int32 → Int32 → Int32 → Int32 → Int32 → Int32 → Int32 → (Nat → Int32) → Option (Int32 × Int32 × Int32 × (Nat → Int32))) (x3 : Int32) (x4 : Int32) (x5 : Int32) (x6 : Int32) (s0 : Int32) (v_this_families : Int32) (v_this_sets : Int32) (v_this_least : Int32) (v_this_timesIn : Nat → Int32) : Option (Int32 × Int32 × Int32 × (Nat → Int32)) := if s0 = 0 then (f_X4_search_b107 v_p0_families v_p0_coldCount v_p1_date v_p1_frozen v_p0_colds v_p0_warmths k_37 x3 x4 x5 x6 v_this_families v_this_sets v_this_least v_this_timesIn) else ((f_J6_bitCount_0f7a4 x6).bind fun y11 => if v_this_families < y11 then (f_X4_search_b107 v_p0_families v_p0_coldCount v_p1_date v_p1_frozen v_p0_colds v_p0_warmths k_37 x3 x4 x5 x6 v_this_families v_this_sets v_this_least v_this_timesIn) else ((f_X5_warmthOfSet v_p0_families v_p0_warmths x6).bind fun y13 => if y13 < x4 then (f_X4_search_b107 v_p0_families v_p0_coldCount v_p1_date v_p1_frozen v_p0_colds v_p0_warmths k_37 x3 x4 x5 x6 v_this_families v_this_sets v_this_least v_this_timesIn) else (bd4 (f_X4_take v_this_families v_this_sets v_this_least v_this_timesIn x6 x3) (fun y15_0 y15_1 y15_2 y15_3 => f_X4_search_b107 v_p0_families v_p0_coldCount v_p1_date v_p1_frozen v_p0_colds v_p0_warmths k_37 x3 x4 x5 x6 y15_0 y15_1 y15_2 y15_3))))
def f_X4_search_b69 (v_p0_families : Int32) (v_p0_coldCount : Int32) (v_p1_date : Int32) (v_p1_frozen : Int32) (v_p0_colds : Nat → Int32) (v_p0_warmths : Nat → Int32) (k_37 : Int32 → Int32 → Int32 → Int32 → Int32 → Int32 → Int32 → (Nat → Int32) → Option (Int32 × Int32 × Int32 × (Nat → Int32))) (x3 : Int32) (x4 : Int32) (x5 : Int32) (x6 : Int32) (v_this_families : Int32) (v_this_sets : Int32) (v_this_least : Int32) (v_this_timesIn : Nat → Int32) : Option (Int32 × Int32 × Int32 × (Nat → Int32)) := f_X4_search_b70 v_p0_families v_p0_coldCount v_p1_date v_p1_frozen v_p0_colds v_p0_warmths k_37 x3 x4 x5 x6 0 v_this_families v_this_sets v_this_least v_this_timesIn
def f_X4_search_s37 (v_p0_families : Int32) (v_p0_coldCount : Int32) (v_p1_date : Int32) (v_p1_frozen : Int32) (v_p0_colds : Nat → Int32) (v_p0_warmths : Nat → Int32) (k_37 : Int32 → Int32 → Int32 → Int32 → Int32 → Int32 → Int32 → (Nat → Int32) → Option (Int32 × Int32 × Int32 × (Nat → Int32))) (x3 : Int32) (x4 : Int32) (x5 : Int32) (x6 : Int32) (v_this_families : Int32) (v_this_sets : Int32) (v_this_least : Int32) (v_this_timesIn : Nat → Int32) : Option (Int32 × Int32 × Int32 × (Nat → Int32)) := (f_X5_all v_p0_families).bind fun y5 => if y5 < x6 then (some (v_this_families, v_this_sets, v_this_least, v_this_timesIn)) else ((f_X8_isWithin x6 x5).bind fun y7 => if y7 = 0 then (f_X4_search_b69 v_p0_families v_p0_coldCount v_p1_date v_p1_frozen v_p0_colds v_p0_warmths k_37 x3 x4 x5 x6 v_this_families v_this_sets v_this_least v_this_timesIn) else ((f_X8_holds x6 x3).bind fun y9 => if y9 = 0 then (f_X4_search_b69 v_p0_families v_p0_coldCount v_p1_date v_p1_frozen v_p0_colds v_p0_warmths k_37 x3 x4 x5 x6 v_this_families v_this_sets v_this_least v_this_timesIn) else (f_X4_search_b70 v_p0_families v_p0_coldCount v_p1_date v_p1_frozen v_p0_colds v_p0_warmths k_37 x3 x4 x5 x6 1 v_this_families v_this_sets v_this_least v_this_timesIn)))
def f_X4_search_b37 (v_p0_families : Int32) (v_p0_coldCount : Int32) (v_p1_date : Int32) (v_p1_frozen : Int32) (v_p0_colds : Nat → Int32) (v_p0_warmths : Nat → Int32) (n : Nat) : Int32 → Int32 → Int32 → Int32 → Int32 → Int32 → Int32 → (Nat → Int32) → Option (Int32 × Int32 × Int32 × (Nat → Int32)) := it_ (f_X4_search_s37 v_p0_families v_p0_coldCount v_p1_date v_p1_frozen v_p0_colds v_p0_warmths ) (fun _ _ _ _ _ _ _ _ => none) n
def f_X4_search (v_this_families : Int32) (v_this_sets : Int32) (v_this_least : Int32) (v_p0_families : Int32) (v_p0_coldCount : Int32) (v_p1_date : Int32) (v_p1_frozen : Int32) (v_p0_colds : Nat → Int32) (v_p0_warmths : Nat → Int32) (v_this_timesIn : Nat → Int32) (x3 : Int32) : Option (Int32 × Int32 × Int32 × (Nat → Int32)) := (f_X5_coldOn v_p0_coldCount v_p0_colds v_p1_date).bind fun y1 => (f_X5_all v_p0_families).bind fun y3 => f_X4_search_b37 v_p0_families v_p0_coldCount v_p1_date v_p1_frozen v_p0_colds v_p0_warmths 5000 x3 y1 (y3 &&& (v_p1_frozen ^^^ (-1))) 0 8 0 v_this_least v_this_timesIn
def w_X4_search (cyI cyZ cyW : ClassId) (a_this : Nat) (v_this_families : Int32) (v_this_sets : Int32) (v_this_least : Int32) (a_this_timesIn : Nat) (a_p0 : Nat) (v_p0_families : Int32) (v_p0_quota : Int32) (v_p0_coldCount : Int32) (a_p0_kinds : Nat) (a_p0_warmths : Nat) (a_p0_prices : Nat) (a_p0_favourers : Nat) (a_p0_colds : Nat) (a_p1 : Nat) (v_p1_date : Int32) (v_p1_frozen : Int32) (a_p1_healths : Nat) (a_p1_favourers : Nat) (v_p0_colds : Nat → Int32) (v_p0_warmths : Nat → Int32) (v_this_timesIn : Nat → Int32) : va_W := [(a_this, .inr (4, [.int v_this_families, .int v_this_sets, .int v_this_least, .ref a_this_timesIn])), (a_p0, .inr (5, [.int v_p0_families, .int v_p0_quota, .int v_p0_coldCount, .ref a_p0_kinds, .ref a_p0_warmths, .ref a_p0_prices, .ref a_p0_favourers, .ref a_p0_colds])), (a_p1, .inr (7, [.int v_p1_date, .int v_p1_frozen, .ref a_p1_healths, .ref a_p1_favourers])), (a_p0_colds, .inl (cyI, 6, .inl v_p0_colds)), (a_p0_warmths, .inl (cyI, 7, .inl v_p0_warmths)), (a_this_timesIn, .inl (cyI, 7, .inl v_this_timesIn))]
set_option maxHeartbeats 4000000 in
set_option maxRecDepth 100000 in
theorem c_X4_search (l : Launch) (D : va_G) (cyI cyZ cyW : ClassId) (a_this : Nat) (v_this_families : Int32) (v_this_sets : Int32) (v_this_least : Int32) (a_this_timesIn : Nat) (a_p0 : Nat) (v_p0_families : Int32) (v_p0_quota : Int32) (v_p0_coldCount : Int32) (a_p0_kinds : Nat) (a_p0_warmths : Nat) (a_p0_prices : Nat) (a_p0_favourers : Nat) (a_p0_colds : Nat) (a_p1 : Nat) (v_p1_date : Int32) (v_p1_frozen : Int32) (a_p1_healths : Nat) (a_p1_favourers : Nat) (v_p0_colds : Nat → Int32) (v_p0_warmths : Nat → Int32) (v_this_timesIn : Nat → Int32) (x3 : Int32) (res : Int32 × Int32 × Int32 × (Nat → Int32)) (hf : f_X4_search v_this_families v_this_sets v_this_least v_p0_families v_p0_coldCount v_p1_date v_p1_frozen v_p0_colds v_p0_warmths v_this_timesIn x3 = some res) : ∀ sz, Met l yX4_search wsX4_search { frames := 2, cells := 0, slots := 0, locals := 47 } (PCx D (tyG cyI cyZ cyW) [.ref a_this, .ref a_p0, .ref a_p1, .int x3] (w_X4_search cyI cyZ cyW a_this v_this_families v_this_sets v_this_least a_this_timesIn a_p0 v_p0_families v_p0_quota v_p0_coldCount a_p0_kinds a_p0_warmths a_p0_prices a_p0_favourers a_p0_colds a_p1 v_p1_date v_p1_frozen a_p1_healths a_p1_favourers v_p0_colds v_p0_warmths v_this_timesIn) sz) (QV D (tyG cyI cyZ cyW) (w_X4_search cyI cyZ cyW a_this v_this_families v_this_sets v_this_least a_this_timesIn a_p0 v_p0_families v_p0_quota v_p0_coldCount a_p0_kinds a_p0_warmths a_p0_prices a_p0_favourers a_p0_colds a_p1 v_p1_date v_p1_frozen a_p1_healths a_p1_favourers v_p0_colds v_p0_warmths v_this_timesIn) sz (w_X4_search cyI cyZ cyW a_this res.1 res.2.1 res.2.2.1 a_this_timesIn a_p0 v_p0_families v_p0_quota v_p0_coldCount a_p0_kinds a_p0_warmths a_p0_prices a_p0_favourers a_p0_colds a_p1 v_p1_date v_p1_frozen a_p1_healths a_p1_favourers v_p0_colds v_p0_warmths res.2.2.2)) 0 0 (va_A (w_X4_search cyI cyZ cyW a_this v_this_families v_this_sets v_this_least a_this_timesIn a_p0 v_p0_families v_p0_quota v_p0_coldCount a_p0_kinds a_p0_warmths a_p0_prices a_p0_favourers a_p0_colds a_p1 v_p1_date v_p1_frozen a_p1_healths a_p1_favourers v_p0_colds v_p0_warmths v_this_timesIn) sz) := by
  intro sz
  refine met_of (cc := cX4_search) (maxL := 8) (ret := none) (lv0 := [(0, .ref a_this), (1, .ref a_p0), (2, .ref a_p1), (3, .int x3)]) (by decide) rfl ⟨(Nat.le_of_ble_eq_true rfl), rfl⟩ ?_
  intro p e s m below meth c C hr hlk hnm hsz
  subst hsz
  have C : CX p s m _ c 8 cX4_search RX4 wsX4_search D (tyG cyI cyZ cyW) _ := C
  obtain ⟨Z, hZ⟩ : ∃ Z : va_W → Nat → LV → List Value → Prop, Z = ST p l e { frames := 2, cells := 0, slots := 0, locals := 47 } s m [.ref a_this, .ref a_p0, .ref a_p1, .int x3].toArray below meth c 8 D (va_A (w_X4_search cyI cyZ cyW a_this v_this_families v_this_sets v_this_least a_this_timesIn a_p0 v_p0_families v_p0_quota v_p0_coldCount a_p0_kinds a_p0_warmths a_p0_prices a_p0_favourers a_p0_colds a_p1 v_p1_date v_p1_frozen a_p1_healths a_p1_favourers v_p0_colds v_p0_warmths v_this_timesIn) s.heap.size) (MQ below (QV D (tyG cyI cyZ cyW) (w_X4_search cyI cyZ cyW a_this v_this_families v_this_sets v_this_least a_this_timesIn a_p0 v_p0_families v_p0_quota v_p0_coldCount a_p0_kinds a_p0_warmths a_p0_prices a_p0_favourers a_p0_colds a_p1 v_p1_date v_p1_frozen a_p1_healths a_p1_favourers v_p0_colds v_p0_warmths v_this_timesIn) s.heap.size (w_X4_search cyI cyZ cyW a_this res.1 res.2.1 res.2.2.1 a_this_timesIn a_p0 v_p0_families v_p0_quota v_p0_coldCount a_p0_kinds a_p0_warmths a_p0_prices a_p0_favourers a_p0_colds a_p1 v_p1_date v_p1_frozen a_p1_healths a_p1_favourers v_p0_colds v_p0_warmths res.2.2.2)) [.ref a_this, .ref a_p0, .ref a_p1, .int x3].toArray s 0 0 (va_A (w_X4_search cyI cyZ cyW a_this v_this_families v_this_sets v_this_least a_this_timesIn a_p0 v_p0_families v_p0_quota v_p0_coldCount a_p0_kinds a_p0_warmths a_p0_prices a_p0_favourers a_p0_colds a_p1 v_p1_date v_p1_frozen a_p1_healths a_p1_favourers v_p0_colds v_p0_warmths v_this_timesIn) s.heap.size)) 0 0 := ⟨_, rfl⟩
  have hb_107 : ∀ (k_37 : Int32 → Int32 → Int32 → Int32 → Int32 → Int32 → Int32 → (Nat → Int32) → Option (Int32 × Int32 × Int32 × (Nat → Int32))), (∀ (x3 : Int32) (x4 : Int32) (x5 : Int32) (x6 : Int32) (v_this_families : Int32) (v_this_sets : Int32) (v_this_least : Int32) (v_this_timesIn : Nat → Int32), k_37 x3 x4 x5 x6 v_this_families v_this_sets v_this_least v_this_timesIn = some res → Z (w_X4_search cyI cyZ cyW a_this v_this_families v_this_sets v_this_least a_this_timesIn a_p0 v_p0_families v_p0_quota v_p0_coldCount a_p0_kinds a_p0_warmths a_p0_prices a_p0_favourers a_p0_colds a_p1 v_p1_date v_p1_frozen a_p1_healths a_p1_favourers v_p0_colds v_p0_warmths v_this_timesIn) 37 [(0, .ref a_this), (1, .ref a_p0), (3, .int x3), (4, .int x4), (5, .int x5), (6, .int x6)] []) → ∀ (x3 : Int32) (x4 : Int32) (x5 : Int32) (x6 : Int32) (v_this_families : Int32) (v_this_sets : Int32) (v_this_least : Int32) (v_this_timesIn : Nat → Int32), f_X4_search_b107 v_p0_families v_p0_coldCount v_p1_date v_p1_frozen v_p0_colds v_p0_warmths k_37 x3 x4 x5 x6 v_this_families v_this_sets v_this_least v_this_timesIn = some res → Z (w_X4_search cyI cyZ cyW a_this v_this_families v_this_sets v_this_least a_this_timesIn a_p0 v_p0_families v_p0_quota v_p0_coldCount a_p0_kinds a_p0_warmths a_p0_prices a_p0_favourers a_p0_colds a_p1 v_p1_date v_p1_frozen a_p1_healths a_p1_favourers v_p0_colds v_p0_warmths v_this_timesIn) 107 [(0, .ref a_this), (1, .ref a_p0), (3, .int x3), (4, .int x4), (5, .int x5), (6, .int x6)] [] := by
    subst hZ
    intro k_37 hk_37 x3 x4 x5 x6 v_this_families v_this_sets v_this_least v_this_timesIn hf
    refine r_iinc (v := 1) (k := 5) (lv' := [(6, .int (x6 + 1)), (0, .ref a_this), (1, .ref a_p0), (3, .int x3), (4, .int x4), (5, .int x5)]) C dX4_search_107 rfl (by decide) (by decide) rfl ?_
    refine r_goto C 37 dX4_search_110 (by decide) ?_
    exact ST_lv [1, 2, 3, 4, 5, 0] rfl (hk_37 x3 x4 x5 (x6 + 1) v_this_families v_this_sets v_this_least v_this_timesIn hf)
  have hb_70 : ∀ (k_37 : Int32 → Int32 → Int32 → Int32 → Int32 → Int32 → Int32 → (Nat → Int32) → Option (Int32 × Int32 × Int32 × (Nat → Int32))), (∀ (x3 : Int32) (x4 : Int32) (x5 : Int32) (x6 : Int32) (v_this_families : Int32) (v_this_sets : Int32) (v_this_least : Int32) (v_this_timesIn : Nat → Int32), k_37 x3 x4 x5 x6 v_this_families v_this_sets v_this_least v_this_timesIn = some res → Z (w_X4_search cyI cyZ cyW a_this v_this_families v_this_sets v_this_least a_this_timesIn a_p0 v_p0_families v_p0_quota v_p0_coldCount a_p0_kinds a_p0_warmths a_p0_prices a_p0_favourers a_p0_colds a_p1 v_p1_date v_p1_frozen a_p1_healths a_p1_favourers v_p0_colds v_p0_warmths v_this_timesIn) 37 [(0, .ref a_this), (1, .ref a_p0), (3, .int x3), (4, .int x4), (5, .int x5), (6, .int x6)] []) → ∀ (x3 : Int32) (x4 : Int32) (x5 : Int32) (x6 : Int32) (s0 : Int32) (v_this_families : Int32) (v_this_sets : Int32) (v_this_least : Int32) (v_this_timesIn : Nat → Int32), f_X4_search_b70 v_p0_families v_p0_coldCount v_p1_date v_p1_frozen v_p0_colds v_p0_warmths k_37 x3 x4 x5 x6 s0 v_this_families v_this_sets v_this_least v_this_timesIn = some res → Z (w_X4_search cyI cyZ cyW a_this v_this_families v_this_sets v_this_least a_this_timesIn a_p0 v_p0_families v_p0_quota v_p0_coldCount a_p0_kinds a_p0_warmths a_p0_prices a_p0_favourers a_p0_colds a_p1 v_p1_date v_p1_frozen a_p1_healths a_p1_favourers v_p0_colds v_p0_warmths v_this_timesIn) 70 [(0, .ref a_this), (1, .ref a_p0), (3, .int x3), (4, .int x4), (5, .int x5), (6, .int x6)] [.int s0] := by
    subst hZ
    intro k_37 hk_37 x3 x4 x5 x6 s0 v_this_families v_this_sets v_this_least v_this_timesIn hf
    refine r_istore (lv' := [(7, .int s0), (0, .ref a_this), (1, .ref a_p0), (3, .int x3), (4, .int x4), (5, .int x5), (6, .int x6)]) C dX4_search_70 (by decide) rfl ?_
    refine r_iload C dX4_search_72 0 rfl ?_
    refine r_if_eq C 107 dX4_search_74 (by decide) hf (fun hf => ?_) (fun hf => ?_)
    · exact ST_lv [1, 2, 3, 4, 5, 6] rfl (hb_107 k_37 hk_37 x3 x4 x5 x6 v_this_families v_this_sets v_this_least v_this_timesIn hf)
    · refine r_iload C dX4_search_77 6 rfl ?_
      obtain ⟨y11, hy12, hf⟩ := bd_some hf
      refine r_roS_i (As := [.int x6]) (rest := []) C (c_J6_bitCount_0f7a4 l D cyI cyZ cyW x6 y11 hy12) gX4_search_J6_bitCount_0f7a4 rfl hyS_J6_bitCount_0f7a4 ⟨rfl, rfl, (Nat.le_of_ble_eq_true rfl), (Nat.le_of_ble_eq_true rfl)⟩ rfl [] rfl rfl rfl (Nat.le_of_ble_eq_true rfl) ⟨Nat.zero_le _, Nat.zero_le _⟩ dX4_search_79 ?_
      refine r_aload_n C dX4_search_82 rfl 1 rfl ?_
      refine r_get C in_X4_search_X4 0 rfl rfl 0 (by decide) lk_X4_search_3 rfl rfl dX4_search_83 ?_
      refine r_icmp_gt C 107 dX4_search_86 (by decide) hf (fun hf => ?_) (fun hf => ?_)
      · exact ST_lv [1, 2, 3, 4, 5, 6] rfl (hb_107 k_37 hk_37 x3 x4 x5 x6 v_this_families v_this_sets v_this_least v_this_timesIn hf)
      · refine r_aload_n C dX4_search_89 rfl 2 rfl ?_
        refine r_iload C dX4_search_90 6 rfl ?_
        obtain ⟨y13, hy14, hf⟩ := bd_some hf
        refine r_roV_i (As := [.int x6]) (rest := []) C (c_X5_warmthOfSet l D cyI cyZ cyW a_p0 v_p0_families v_p0_quota v_p0_coldCount a_p0_kinds a_p0_warmths a_p0_prices a_p0_favourers a_p0_colds v_p0_warmths x6 y13 hy14) gX4_search_X5_warmthOfSet rfl hyV_X5_warmthOfSet ⟨rfl, rfl, (Nat.le_of_ble_eq_true rfl), (Nat.le_of_ble_eq_true rfl)⟩ rfl 1 rfl rfl [1, 4] rfl rfl rfl (Nat.le_of_ble_eq_true rfl) ⟨Nat.zero_le _, Nat.zero_le _⟩ dX4_search_92 ?_
        refine r_iload C dX4_search_95 4 rfl ?_
        refine r_icmp_lt C 107 dX4_search_97 (by decide) hf (fun hf => ?_) (fun hf => ?_)
        · exact ST_lv [1, 2, 3, 4, 5, 6] rfl (hb_107 k_37 hk_37 x3 x4 x5 x6 v_this_families v_this_sets v_this_least v_this_timesIn hf)
        · refine r_aload_n C dX4_search_100 rfl 1 rfl ?_
          refine r_iload C dX4_search_101 6 rfl ?_
          refine r_iload_n C dX4_search_103 rfl 3 rfl ?_
          obtain ⟨y15_0, y15_1, y15_2, y15_3, hy16, hf⟩ := bd4_some hf
          refine r_callV_v (As := [.int x6, .int x3]) (rest := []) (ws' := (w_X4_search cyI cyZ cyW a_this y15_0 y15_1 y15_2 a_this_timesIn a_p0 v_p0_families v_p0_quota v_p0_coldCount a_p0_kinds a_p0_warmths a_p0_prices a_p0_favourers a_p0_colds a_p1 v_p1_date v_p1_frozen a_p1_healths a_p1_favourers v_p0_colds v_p0_warmths y15_3)) C (c_X4_take l D cyI cyZ cyW a_this v_this_families v_this_sets v_this_least a_this_timesIn v_this_timesIn x6 x3 (y15_0, y15_1, y15_2, y15_3) hy16) gX4_search_X4_take rfl hyV_X4_take ⟨rfl, rfl, (Nat.le_of_ble_eq_true rfl), (Nat.le_of_ble_eq_true rfl)⟩ rfl 0 rfl rfl [0, 5] rfl rfl rfl rfl rfl (Nat.le_of_ble_eq_true rfl) ⟨Nat.zero_le _, Nat.zero_le _⟩ dX4_search_104 ?_
          exact ST_lv [1, 2, 3, 4, 5, 6] rfl (hb_107 k_37 hk_37 x3 x4 x5 x6 y15_0 y15_1 y15_2 y15_3 hf)
  have hb_69 : ∀ (k_37 : Int32 → Int32 → Int32 → Int32 → Int32 → Int32 → Int32 → (Nat → Int32) → Option (Int32 × Int32 × Int32 × (Nat → Int32))), (∀ (x3 : Int32) (x4 : Int32) (x5 : Int32) (x6 : Int32) (v_this_families : Int32) (v_this_sets : Int32) (v_this_least : Int32) (v_this_timesIn : Nat → Int32), k_37 x3 x4 x5 x6 v_this_families v_this_sets v_this_least v_this_timesIn = some res → Z (w_X4_search cyI cyZ cyW a_this v_this_families v_this_sets v_this_least a_this_timesIn a_p0 v_p0_families v_p0_quota v_p0_coldCount a_p0_kinds a_p0_warmths a_p0_prices a_p0_favourers a_p0_colds a_p1 v_p1_date v_p1_frozen a_p1_healths a_p1_favourers v_p0_colds v_p0_warmths v_this_timesIn) 37 [(0, .ref a_this), (1, .ref a_p0), (3, .int x3), (4, .int x4), (5, .int x5), (6, .int x6)] []) → ∀ (x3 : Int32) (x4 : Int32) (x5 : Int32) (x6 : Int32) (v_this_families : Int32) (v_this_sets : Int32) (v_this_least : Int32) (v_this_timesIn : Nat → Int32), f_X4_search_b69 v_p0_families v_p0_coldCount v_p1_date v_p1_frozen v_p0_colds v_p0_warmths k_37 x3 x4 x5 x6 v_this_families v_this_sets v_this_least v_this_timesIn = some res → Z (w_X4_search cyI cyZ cyW a_this v_this_families v_this_sets v_this_least a_this_timesIn a_p0 v_p0_families v_p0_quota v_p0_coldCount a_p0_kinds a_p0_warmths a_p0_prices a_p0_favourers a_p0_colds a_p1 v_p1_date v_p1_frozen a_p1_healths a_p1_favourers v_p0_colds v_p0_warmths v_this_timesIn) 69 [(0, .ref a_this), (1, .ref a_p0), (3, .int x3), (4, .int x4), (5, .int x5), (6, .int x6)] [] := by
    subst hZ
    intro k_37 hk_37 x3 x4 x5 x6 v_this_families v_this_sets v_this_least v_this_timesIn hf
    refine r_iconst C 0 dX4_search_69 (by decide) ?_
    exact ST_lv [0, 1, 2, 3, 4, 5] rfl (hb_70 k_37 hk_37 x3 x4 x5 x6 0 v_this_families v_this_sets v_this_least v_this_timesIn hf)
  have hs_37 : ∀ (k_37 : Int32 → Int32 → Int32 → Int32 → Int32 → Int32 → Int32 → (Nat → Int32) → Option (Int32 × Int32 × Int32 × (Nat → Int32))), (∀ (x3 : Int32) (x4 : Int32) (x5 : Int32) (x6 : Int32) (v_this_families : Int32) (v_this_sets : Int32) (v_this_least : Int32) (v_this_timesIn : Nat → Int32), k_37 x3 x4 x5 x6 v_this_families v_this_sets v_this_least v_this_timesIn = some res → Z (w_X4_search cyI cyZ cyW a_this v_this_families v_this_sets v_this_least a_this_timesIn a_p0 v_p0_families v_p0_quota v_p0_coldCount a_p0_kinds a_p0_warmths a_p0_prices a_p0_favourers a_p0_colds a_p1 v_p1_date v_p1_frozen a_p1_healths a_p1_favourers v_p0_colds v_p0_warmths v_this_timesIn) 37 [(0, .ref a_this), (1, .ref a_p0), (3, .int x3), (4, .int x4), (5, .int x5), (6, .int x6)] []) → ∀ (x3 : Int32) (x4 : Int32) (x5 : Int32) (x6 : Int32) (v_this_families : Int32) (v_this_sets : Int32) (v_this_least : Int32) (v_this_timesIn : Nat → Int32), f_X4_search_s37 v_p0_families v_p0_coldCount v_p1_date v_p1_frozen v_p0_colds v_p0_warmths k_37 x3 x4 x5 x6 v_this_families v_this_sets v_this_least v_this_timesIn = some res → Z (w_X4_search cyI cyZ cyW a_this v_this_families v_this_sets v_this_least a_this_timesIn a_p0 v_p0_families v_p0_quota v_p0_coldCount a_p0_kinds a_p0_warmths a_p0_prices a_p0_favourers a_p0_colds a_p1 v_p1_date v_p1_frozen a_p1_healths a_p1_favourers v_p0_colds v_p0_warmths v_this_timesIn) 37 [(0, .ref a_this), (1, .ref a_p0), (3, .int x3), (4, .int x4), (5, .int x5), (6, .int x6)] [] := by
    subst hZ
    intro k_37 hk_37 x3 x4 x5 x6 v_this_families v_this_sets v_this_least v_this_timesIn hf
    refine r_iload C dX4_search_37 5 rfl ?_
    refine r_aload_n C dX4_search_39 rfl 1 rfl ?_
    obtain ⟨y5, hy6, hf⟩ := bd_some hf
    refine r_roV_i (As := []) (rest := [.int x6]) C (c_X5_all l D cyI cyZ cyW a_p0 v_p0_families v_p0_quota v_p0_coldCount a_p0_kinds a_p0_warmths a_p0_prices a_p0_favourers a_p0_colds y5 hy6) gX4_search_X5_all rfl hyV_X5_all ⟨rfl, rfl, (Nat.le_of_ble_eq_true rfl), (Nat.le_of_ble_eq_true rfl)⟩ rfl 1 rfl rfl [1] rfl rfl rfl (Nat.le_of_ble_eq_true rfl) ⟨Nat.zero_le _, Nat.zero_le _⟩ dX4_search_40 ?_
    refine r_icmp_gt C 113 dX4_search_43 (by decide) hf (fun hf => ?_) (fun hf => ?_)
    · rw [← Option.some.inj hf]
      exact r_vret C hr hlk dX4_search_113
    · refine r_iload C dX4_search_46 5 rfl ?_
      refine r_iload C dX4_search_48 4 rfl ?_
      obtain ⟨y7, hy8, hf⟩ := bd_some hf
      refine r_roSN_i (As := [.int x6, .int x5]) (rest := []) C (c_X8_isWithin l D cyI cyZ cyW x6 x5 y7 hy8) gX4_search_X8_isWithin_n40 5 rfl lk_X4_search_18 lk_X4_search_20 rfl hyS_X8_isWithin ⟨rfl, rfl, (Nat.le_of_ble_eq_true rfl), (Nat.le_of_ble_eq_true rfl)⟩ rfl [] rfl rfl rfl (Nat.le_of_ble_eq_true rfl) ⟨Nat.zero_le _, Nat.zero_le _⟩ dX4_search_50 ?_
      refine r_if_eq C 69 dX4_search_53 (by decide) hf (fun hf => ?_) (fun hf => ?_)
      · exact ST_lv [0, 1, 2, 3, 4, 5] rfl (hb_69 k_37 hk_37 x3 x4 x5 x6 v_this_families v_this_sets v_this_least v_this_timesIn hf)
      · refine r_iload C dX4_search_56 5 rfl ?_
        refine r_iload_n C dX4_search_58 rfl 2 rfl ?_
        obtain ⟨y9, hy10, hf⟩ := bd_some hf
        refine r_roSN_i (As := [.int x6, .int x3]) (rest := []) C (c_X8_holds l D cyI cyZ cyW x6 x3 y9 hy10) gX4_search_X8_holds_n44 6 rfl lk_X4_search_18 lk_X4_search_22 rfl hyS_X8_holds ⟨rfl, rfl, (Nat.le_of_ble_eq_true rfl), (Nat.le_of_ble_eq_true rfl)⟩ rfl [] rfl rfl rfl (Nat.le_of_ble_eq_true rfl) ⟨Nat.zero_le _, Nat.zero_le _⟩ dX4_search_59 ?_
        refine r_if_eq C 69 dX4_search_62 (by decide) hf (fun hf => ?_) (fun hf => ?_)
        · exact ST_lv [0, 1, 2, 3, 4, 5] rfl (hb_69 k_37 hk_37 x3 x4 x5 x6 v_this_families v_this_sets v_this_least v_this_timesIn hf)
        · refine r_iconst C 1 dX4_search_65 (by decide) ?_
          refine r_goto C 70 dX4_search_66 (by decide) ?_
          exact ST_lv [0, 1, 2, 3, 4, 5] rfl (hb_70 k_37 hk_37 x3 x4 x5 x6 1 v_this_families v_this_sets v_this_least v_this_timesIn hf)
  have hb_37 : ∀ (n : Nat) (x3 : Int32) (x4 : Int32) (x5 : Int32) (x6 : Int32) (v_this_families : Int32) (v_this_sets : Int32) (v_this_least : Int32) (v_this_timesIn : Nat → Int32), f_X4_search_b37 v_p0_families v_p0_coldCount v_p1_date v_p1_frozen v_p0_colds v_p0_warmths n x3 x4 x5 x6 v_this_families v_this_sets v_this_least v_this_timesIn = some res → Z (w_X4_search cyI cyZ cyW a_this v_this_families v_this_sets v_this_least a_this_timesIn a_p0 v_p0_families v_p0_quota v_p0_coldCount a_p0_kinds a_p0_warmths a_p0_prices a_p0_favourers a_p0_colds a_p1 v_p1_date v_p1_frozen a_p1_healths a_p1_favourers v_p0_colds v_p0_warmths v_this_timesIn) 37 [(0, .ref a_this), (1, .ref a_p0), (3, .int x3), (4, .int x4), (5, .int x5), (6, .int x6)] [] := by
    intro  n
    induction n with
    | zero => intro x3 x4 x5 x6 v_this_families v_this_sets v_this_least v_this_timesIn hf; exact nn_ hf
    | succ n ih => exact fun x3 x4 x5 x6 v_this_families v_this_sets v_this_least v_this_timesIn hf => hs_37 _ ih x3 x4 x5 x6 v_this_families v_this_sets v_this_least v_this_timesIn hf
  subst hZ
  refine r_aload_n C dX4_search_0 rfl 1 rfl ?_
  refine r_aload_n C dX4_search_1 rfl 2 rfl ?_
  refine r_get C in_X4_search_X7 2 rfl rfl 0 (by decide) lk_X4_search_1 rfl rfl dX4_search_2 ?_
  obtain ⟨y1, hy2, hf⟩ := bd_some hf
  refine r_roV_i (As := [.int v_p1_date]) (rest := []) C (c_X5_coldOn l D cyI cyZ cyW a_p0 v_p0_families v_p0_quota v_p0_coldCount a_p0_kinds a_p0_warmths a_p0_prices a_p0_favourers a_p0_colds v_p0_colds v_p1_date y1 hy2) gX4_search_X5_coldOn rfl hyV_X5_coldOn ⟨rfl, rfl, (Nat.le_of_ble_eq_true rfl), (Nat.le_of_ble_eq_true rfl)⟩ rfl 1 rfl rfl [1, 3] rfl rfl rfl (Nat.le_of_ble_eq_true rfl) ⟨Nat.zero_le _, Nat.zero_le _⟩ dX4_search_5 ?_
  refine r_istore (lv' := [(4, .int y1), (0, .ref a_this), (1, .ref a_p0), (2, .ref a_p1), (3, .int x3)]) C dX4_search_8 (by decide) rfl ?_
  refine r_aload_n C dX4_search_10 rfl 2 rfl ?_
  obtain ⟨y3, hy4, hf⟩ := bd_some hf
  refine r_roV_i (As := []) (rest := []) C (c_X5_all l D cyI cyZ cyW a_p0 v_p0_families v_p0_quota v_p0_coldCount a_p0_kinds a_p0_warmths a_p0_prices a_p0_favourers a_p0_colds y3 hy4) gX4_search_X5_all rfl hyV_X5_all ⟨rfl, rfl, (Nat.le_of_ble_eq_true rfl), (Nat.le_of_ble_eq_true rfl)⟩ rfl 1 rfl rfl [1] rfl rfl rfl (Nat.le_of_ble_eq_true rfl) ⟨Nat.zero_le _, Nat.zero_le _⟩ dX4_search_11 ?_
  refine r_aload_n C dX4_search_14 rfl 3 rfl ?_
  refine r_get C in_X4_search_X7 2 rfl rfl 1 (by decide) lk_X4_search_2 rfl rfl dX4_search_15 ?_
  refine r_iconst C (-1) dX4_search_18 (by decide) ?_
  refine r_ixor C dX4_search_19 ?_
  refine r_iand C dX4_search_20 ?_
  refine r_istore (lv' := [(5, .int (y3 &&& (v_p1_frozen ^^^ (-1)))), (4, .int y1), (0, .ref a_this), (1, .ref a_p0), (2, .ref a_p1), (3, .int x3)]) C dX4_search_21 (by decide) rfl ?_
  refine r_aload_n C dX4_search_23 rfl 2 rfl ?_
  refine r_bipush C 8 dX4_search_24 (by decide) ?_
  refine r_put (ws' := (w_X4_search cyI cyZ cyW a_this 8 v_this_sets v_this_least a_this_timesIn a_p0 v_p0_families v_p0_quota v_p0_coldCount a_p0_kinds a_p0_warmths a_p0_prices a_p0_favourers a_p0_colds a_p1 v_p1_date v_p1_frozen a_p1_healths a_p1_favourers v_p0_colds v_p0_warmths v_this_timesIn)) C in_X4_search_X4 tyX4 tyX4_ok nmX4 0 rfl rfl 0 (by decide) lk_X4_search_3 rfl rfl rfl rfl (Nat.le_of_ble_eq_true rfl) rfl dX4_search_26 ?_
  refine r_aload_n C dX4_search_29 rfl 2 rfl ?_
  refine r_iconst C 0 dX4_search_30 (by decide) ?_
  refine r_put (ws' := (w_X4_search cyI cyZ cyW a_this 8 0 v_this_least a_this_timesIn a_p0 v_p0_families v_p0_quota v_p0_coldCount a_p0_kinds a_p0_warmths a_p0_prices a_p0_favourers a_p0_colds a_p1 v_p1_date v_p1_frozen a_p1_healths a_p1_favourers v_p0_colds v_p0_warmths v_this_timesIn)) C in_X4_search_X4 tyX4 tyX4_ok nmX4 0 rfl rfl 1 (by decide) lk_X4_search_4 rfl rfl rfl rfl (Nat.le_of_ble_eq_true rfl) rfl dX4_search_31 ?_
  refine r_iconst C 0 dX4_search_34 (by decide) ?_
  refine r_istore (lv' := [(6, .int 0), (5, .int (y3 &&& (v_p1_frozen ^^^ (-1)))), (4, .int y1), (0, .ref a_this), (1, .ref a_p0), (2, .ref a_p1), (3, .int x3)]) C dX4_search_35 (by decide) rfl ?_
  exact ST_lv [3, 4, 6, 2, 1, 0] rfl (hb_37 5000 x3 y1 (y3 &&& (v_p1_frozen ^^^ (-1))) 0 8 0 v_this_least v_this_timesIn hf)

theorem lk_X4_inMost_1 : Cond.fieldLink RX4 9 "ParishCoat$Smallest" "timesIn" "[I" ∈ wsX4_inMost := List.mem_of_getElem? (i := 1) rfl
theorem lk_X4_inMost_2 : Cond.static yX8_with ∈ wsX4_inMost := List.mem_of_getElem? (i := 2) rfl
theorem lk_X4_inMost_3 : Cond.initialized RX8 ∈ wsX4_inMost := List.mem_of_getElem? (i := 3) rfl
theorem in_X4_inMost_X4 : ∀ w ∈ u_ws RX4 TX4 4, w ∈ wsX4_inMost := fun _ h => List.mem_cons_of_mem _ (List.mem_append_right _ h)
def f_X4_inMost_b48 (v_this_timesIn : Nat → Int32) (k_6 : Int32 → Int32 → Int32 → Option (Int32)) (x1 : Int32) (x3 : Int32) (s0 : Int32) (s1 : Int32) (s2 : Int32) : Option (Int32) := (f_X8_with s2 s1 s0).bind fun y4 => k_6 x1 y4 (x3 + 1)
def f_X4_inMost_b31 (v_this_timesIn : Nat → Int32) (k_6 : Int32 → Int32 → Int32 → Option (Int32)) (x1 : Int32) (x2 : Int32) (x3 : Int32) : Option (Int32) := gd_ x3 7 (if (v_this_timesIn (Int32.toNatClampNeg x3)) = x1 then (f_X4_inMost_b48 v_this_timesIn k_6 x1 x3 1 x3 x2) else (f_X4_inMost_b48 v_this_timesIn k_6 x1 x3 0 x3 x2))
def f_X4_inMost_s6 (v_this_timesIn : Nat → Int32) (k_6 : Int32 → Int32 → Int32 → Option (Int32)) (x1 : Int32) (x2 : Int32) (x3 : Int32) : Option (Int32) := if 7 ≤ x3 then (some (x2)) else (gd_ x3 7 (if (v_this_timesIn (Int32.toNatClampNeg x3)) ≤ x1 then (f_X4_inMost_b31 v_this_timesIn k_6 x1 x2 x3) else (gd_ x3 7 (f_X4_inMost_b31 v_this_timesIn k_6 (v_this_timesIn (Int32.toNatClampNeg x3)) 0 x3))))
def f_X4_inMost_b6 (v_this_timesIn : Nat → Int32) (n : Nat) : Int32 → Int32 → Int32 → Option (Int32) := it_ (f_X4_inMost_s6 v_this_timesIn ) (fun _ _ _ => none) n
def f_X4_inMost (v_this_timesIn : Nat → Int32) : Option (Int32) := f_X4_inMost_b6 v_this_timesIn 5000 1 0 0
def w_X4_inMost (cyI cyZ cyW : ClassId) (a_this : Nat) (v_this_families : Int32) (v_this_sets : Int32) (v_this_least : Int32) (a_this_timesIn : Nat) (v_this_timesIn : Nat → Int32) : va_W := [(a_this, .inr (4, [.int v_this_families, .int v_this_sets, .int v_this_least, .ref a_this_timesIn])), (a_this_timesIn, .inl (cyI, 7, .inl v_this_timesIn))]
set_option maxHeartbeats 4000000 in
set_option maxRecDepth 100000 in
theorem c_X4_inMost (l : Launch) (D : va_G) (cyI cyZ cyW : ClassId) (a_this : Nat) (v_this_families : Int32) (v_this_sets : Int32) (v_this_least : Int32) (a_this_timesIn : Nat) (v_this_timesIn : Nat → Int32) (res : Int32) (hf : f_X4_inMost v_this_timesIn = some res) : ∀ sz, Met l yX4_inMost wsX4_inMost { frames := 2, cells := 0, slots := 0, locals := 42 } (PCx D (tyG cyI cyZ cyW) [.ref a_this] (w_X4_inMost cyI cyZ cyW a_this v_this_families v_this_sets v_this_least a_this_timesIn v_this_timesIn) sz) (QI D (tyG cyI cyZ cyW) (w_X4_inMost cyI cyZ cyW a_this v_this_families v_this_sets v_this_least a_this_timesIn v_this_timesIn) sz res (w_X4_inMost cyI cyZ cyW a_this v_this_families v_this_sets v_this_least a_this_timesIn v_this_timesIn)) 0 0 (va_A (w_X4_inMost cyI cyZ cyW a_this v_this_families v_this_sets v_this_least a_this_timesIn v_this_timesIn) sz) := by
  intro sz
  refine met_of (cc := cX4_inMost) (maxL := 4) (ret := (some .int)) (lv0 := [(0, .ref a_this)]) (by decide) rfl ⟨(Nat.le_of_ble_eq_true rfl), rfl⟩ ?_
  intro p e s m below meth c C hr hlk hnm hsz
  subst hsz
  have C : CX p s m _ c 4 cX4_inMost RX4 wsX4_inMost D (tyG cyI cyZ cyW) _ := C
  obtain ⟨Z, hZ⟩ : ∃ Z : va_W → Nat → LV → List Value → Prop, Z = ST p l e { frames := 2, cells := 0, slots := 0, locals := 42 } s m [.ref a_this].toArray below meth c 4 D (va_A (w_X4_inMost cyI cyZ cyW a_this v_this_families v_this_sets v_this_least a_this_timesIn v_this_timesIn) s.heap.size) (MQ below (QI D (tyG cyI cyZ cyW) (w_X4_inMost cyI cyZ cyW a_this v_this_families v_this_sets v_this_least a_this_timesIn v_this_timesIn) s.heap.size res (w_X4_inMost cyI cyZ cyW a_this v_this_families v_this_sets v_this_least a_this_timesIn v_this_timesIn)) [.ref a_this].toArray s 0 0 (va_A (w_X4_inMost cyI cyZ cyW a_this v_this_families v_this_sets v_this_least a_this_timesIn v_this_timesIn) s.heap.size)) 0 0 := ⟨_, rfl⟩
  have hb_48 : ∀ (k_6 : Int32 → Int32 → Int32 → Option (Int32)), (∀ (x1 : Int32) (x2 : Int32) (x3 : Int32), k_6 x1 x2 x3 = some res → Z (w_X4_inMost cyI cyZ cyW a_this v_this_families v_this_sets v_this_least a_this_timesIn v_this_timesIn) 6 [(0, .ref a_this), (1, .int x1), (2, .int x2), (3, .int x3)] []) → ∀ (x1 : Int32) (x3 : Int32) (s0 : Int32) (s1 : Int32) (s2 : Int32), f_X4_inMost_b48 v_this_timesIn k_6 x1 x3 s0 s1 s2 = some res → Z (w_X4_inMost cyI cyZ cyW a_this v_this_families v_this_sets v_this_least a_this_timesIn v_this_timesIn) 48 [(0, .ref a_this), (1, .int x1), (3, .int x3)] [.int s0, .int s1, .int s2] := by
    subst hZ
    intro k_6 hk_6 x1 x3 s0 s1 s2 hf
    obtain ⟨y4, hy5, hf⟩ := bd_some hf
    refine r_roSN_i (As := [.int s2, .int s1, .int s0]) (rest := []) C (c_X8_with l D cyI cyZ cyW s2 s1 s0 y4 hy5) gX4_inMost_X8_with_n68 7 rfl lk_X4_inMost_3 lk_X4_inMost_2 rfl hyS_X8_with ⟨rfl, rfl, (Nat.le_of_ble_eq_true rfl), (Nat.le_of_ble_eq_true rfl)⟩ rfl [] rfl rfl rfl (Nat.le_of_ble_eq_true rfl) ⟨Nat.zero_le _, Nat.zero_le _⟩ dX4_inMost_48 ?_
    refine r_istore_n (lv' := [(2, .int y4), (0, .ref a_this), (1, .int x1), (3, .int x3)]) C dX4_inMost_51 rfl (by decide) rfl ?_
    refine r_iinc (v := 1) (k := 3) (lv' := [(3, .int (x3 + 1)), (2, .int y4), (0, .ref a_this), (1, .int x1)]) C dX4_inMost_52 rfl (by decide) (by decide) rfl ?_
    refine r_goto C 6 dX4_inMost_55 (by decide) ?_
    exact ST_lv [2, 3, 1, 0] rfl (hk_6 x1 y4 (x3 + 1) hf)
  have hb_31 : ∀ (k_6 : Int32 → Int32 → Int32 → Option (Int32)), (∀ (x1 : Int32) (x2 : Int32) (x3 : Int32), k_6 x1 x2 x3 = some res → Z (w_X4_inMost cyI cyZ cyW a_this v_this_families v_this_sets v_this_least a_this_timesIn v_this_timesIn) 6 [(0, .ref a_this), (1, .int x1), (2, .int x2), (3, .int x3)] []) → ∀ (x1 : Int32) (x2 : Int32) (x3 : Int32), f_X4_inMost_b31 v_this_timesIn k_6 x1 x2 x3 = some res → Z (w_X4_inMost cyI cyZ cyW a_this v_this_families v_this_sets v_this_least a_this_timesIn v_this_timesIn) 31 [(0, .ref a_this), (1, .int x1), (2, .int x2), (3, .int x3)] [] := by
    subst hZ
    intro k_6 hk_6 x1 x2 x3 hf
    refine r_iload_n C dX4_inMost_31 rfl 2 rfl ?_
    refine r_iload_n C dX4_inMost_32 rfl 3 rfl ?_
    refine r_aload_n C dX4_inMost_33 rfl 0 rfl ?_
    refine r_get C in_X4_inMost_X4 0 rfl rfl 3 (by decide) lk_X4_inMost_1 rfl rfl dX4_inMost_34 ?_
    refine r_iload_n C dX4_inMost_37 rfl 3 rfl ?_
    obtain ⟨hi3, hf⟩ := gd_some hf
    refine r_iald C 1 0 rfl rfl hi3 dX4_inMost_38 ?_
    refine r_iload_n C dX4_inMost_39 rfl 1 rfl ?_
    refine r_icmp_ne C 47 dX4_inMost_40 (by decide) hf (fun hf => ?_) (fun hf => ?_)
    · refine r_iconst C 0 dX4_inMost_47 (by decide) ?_
      exact ST_lv [0, 1, 3] rfl (hb_48 k_6 hk_6 x1 x3 0 x3 x2 hf)
    · refine r_iconst C 1 dX4_inMost_43 (by decide) ?_
      refine r_goto C 48 dX4_inMost_44 (by decide) ?_
      exact ST_lv [0, 1, 3] rfl (hb_48 k_6 hk_6 x1 x3 1 x3 x2 hf)
  have hs_6 : ∀ (k_6 : Int32 → Int32 → Int32 → Option (Int32)), (∀ (x1 : Int32) (x2 : Int32) (x3 : Int32), k_6 x1 x2 x3 = some res → Z (w_X4_inMost cyI cyZ cyW a_this v_this_families v_this_sets v_this_least a_this_timesIn v_this_timesIn) 6 [(0, .ref a_this), (1, .int x1), (2, .int x2), (3, .int x3)] []) → ∀ (x1 : Int32) (x2 : Int32) (x3 : Int32), f_X4_inMost_s6 v_this_timesIn k_6 x1 x2 x3 = some res → Z (w_X4_inMost cyI cyZ cyW a_this v_this_families v_this_sets v_this_least a_this_timesIn v_this_timesIn) 6 [(0, .ref a_this), (1, .int x1), (2, .int x2), (3, .int x3)] [] := by
    subst hZ
    intro k_6 hk_6 x1 x2 x3 hf
    refine r_iload_n C dX4_inMost_6 rfl 3 rfl ?_
    refine r_bipush C 7 dX4_inMost_7 (by decide) ?_
    refine r_icmp_ge C 58 dX4_inMost_9 (by decide) hf (fun hf => ?_) (fun hf => ?_)
    · refine r_iload_n C dX4_inMost_58 rfl 2 rfl ?_
      rw [← Option.some.inj hf]
      exact r_iret C hr hlk dX4_inMost_59
    · refine r_aload_n C dX4_inMost_12 rfl 0 rfl ?_
      refine r_get C in_X4_inMost_X4 0 rfl rfl 3 (by decide) lk_X4_inMost_1 rfl rfl dX4_inMost_13 ?_
      refine r_iload_n C dX4_inMost_16 rfl 3 rfl ?_
      obtain ⟨hi1, hf⟩ := gd_some hf
      refine r_iald C 1 0 rfl rfl hi1 dX4_inMost_17 ?_
      refine r_iload_n C dX4_inMost_18 rfl 1 rfl ?_
      refine r_icmp_le C 31 dX4_inMost_19 (by decide) hf (fun hf => ?_) (fun hf => ?_)
      · exact ST_lv [0, 1, 2, 3] rfl (hb_31 k_6 hk_6 x1 x2 x3 hf)
      · refine r_aload_n C dX4_inMost_22 rfl 0 rfl ?_
        refine r_get C in_X4_inMost_X4 0 rfl rfl 3 (by decide) lk_X4_inMost_1 rfl rfl dX4_inMost_23 ?_
        refine r_iload_n C dX4_inMost_26 rfl 3 rfl ?_
        obtain ⟨hi2, hf⟩ := gd_some hf
        refine r_iald C 1 0 rfl rfl hi2 dX4_inMost_27 ?_
        refine r_istore_n (lv' := [(1, .int (v_this_timesIn (Int32.toNatClampNeg x3))), (0, .ref a_this), (2, .int x2), (3, .int x3)]) C dX4_inMost_28 rfl (by decide) rfl ?_
        refine r_iconst C 0 dX4_inMost_29 (by decide) ?_
        refine r_istore_n (lv' := [(2, .int 0), (1, .int (v_this_timesIn (Int32.toNatClampNeg x3))), (0, .ref a_this), (3, .int x3)]) C dX4_inMost_30 rfl (by decide) rfl ?_
        exact ST_lv [2, 1, 0, 3] rfl (hb_31 k_6 hk_6 (v_this_timesIn (Int32.toNatClampNeg x3)) 0 x3 hf)
  have hb_6 : ∀ (n : Nat) (x1 : Int32) (x2 : Int32) (x3 : Int32), f_X4_inMost_b6 v_this_timesIn n x1 x2 x3 = some res → Z (w_X4_inMost cyI cyZ cyW a_this v_this_families v_this_sets v_this_least a_this_timesIn v_this_timesIn) 6 [(0, .ref a_this), (1, .int x1), (2, .int x2), (3, .int x3)] [] := by
    intro  n
    induction n with
    | zero => intro x1 x2 x3 hf; exact nn_ hf
    | succ n ih => exact fun x1 x2 x3 hf => hs_6 _ ih x1 x2 x3 hf
  subst hZ
  refine r_iconst C 1 dX4_inMost_0 (by decide) ?_
  refine r_istore_n (lv' := [(1, .int 1), (0, .ref a_this)]) C dX4_inMost_1 rfl (by decide) rfl ?_
  refine r_iconst C 0 dX4_inMost_2 (by decide) ?_
  refine r_istore_n (lv' := [(2, .int 0), (1, .int 1), (0, .ref a_this)]) C dX4_inMost_3 rfl (by decide) rfl ?_
  refine r_iconst C 0 dX4_inMost_4 (by decide) ?_
  refine r_istore_n (lv' := [(3, .int 0), (2, .int 0), (1, .int 1), (0, .ref a_this)]) C dX4_inMost_5 rfl (by decide) rfl ?_
  exact ST_lv [3, 2, 1, 0] rfl (hb_6 5000 1 0 0 hf)

theorem lk_X3_compare_1 : Cond.fieldLink RX3 56 "ParishCoat$Winter" "frozen" "I" ∈ wsX3_compare := List.mem_of_getElem? (i := 1) rfl
theorem lk_X3_compare_2 : Cond.fieldLink RX3 25 "ParishCoat$Rota" "fewestFrozen" "I" ∈ wsX3_compare := List.mem_of_getElem? (i := 2) rfl
theorem lk_X3_compare_3 : Cond.fieldLink RX3 29 "ParishCoat$Rota" "mostHealth" "I" ∈ wsX3_compare := List.mem_of_getElem? (i := 3) rfl
theorem lk_X3_compare_4 : Cond.fieldLink RX3 15 "ParishCoat$Rota" "askers" "[I" ∈ wsX3_compare := List.mem_of_getElem? (i := 4) rfl
theorem lk_X3_compare_5 : Cond.fieldLink RX3 9 "ParishCoat$Rota" "best" "[I" ∈ wsX3_compare := List.mem_of_getElem? (i := 5) rfl
theorem lk_X3_compare_6 : Cond.methodLink RX3 69 arraycopyName ∈ wsX3_compare := List.mem_of_getElem? (i := 6) rfl
theorem lk_X3_compare_7 : Cond.native arraycopyName ∈ wsX3_compare := List.mem_of_getElem? (i := 7) rfl
theorem lk_X3_compare_8 : Cond.static arraycopyName ∈ wsX3_compare := List.mem_of_getElem? (i := 8) rfl
theorem lk_X3_compare_9 : Cond.initialized "java/lang/System" ∈ wsX3_compare := List.mem_of_getElem? (i := 9) rfl
theorem in_X3_compare_X3 : ∀ w ∈ u_ws RX3 TX3 5, w ∈ wsX3_compare := fun _ h => List.mem_cons_of_mem _ (List.mem_append_right _ h)
theorem in_X3_compare_X7 : ∀ w ∈ u_ws RX7 TX7 4, w ∈ wsX3_compare := fun _ h => List.mem_cons_of_mem _ (List.mem_append_left _ (List.mem_append_right _ h))
theorem hyV_X7_healthOfAll : yX7_healthOfAll.cls = RX7 ∧ yX7_healthOfAll.cls ≠ "java/lang/invoke/MethodHandle" ∧ yX7_healthOfAll.cls ≠ "java/lang/invoke/VarHandle" ∧ (parseMethodDescriptor yX7_healthOfAll.desc).map (fun d => d.parameters.length) = some 0 := by decide +kernel
theorem hyS_X7_healthOfAll : yX7_healthOfAll.cls ≠ "java/lang/invoke/MethodHandle" ∧ yX7_healthOfAll.cls ≠ "java/lang/invoke/VarHandle" ∧ (parseMethodDescriptor yX7_healthOfAll.desc).map (fun d => d.parameters.length) = some 0 := by decide +kernel
def f_X3_compare_b37 (v_p0_frozen : Int32) (v_p0_healths : Nat → Int32) (v_this_askers : Nat → Int32) (x2 : Int32) (x3 : Int32) (v_this_fewestFrozen : Int32) (v_this_mostHealth : Int32) (v_this_best : Nat → Int32) : Option (Int32 × Int32 × (Nat → Int32)) := some (x2, x3, (va_cpy v_this_askers v_this_best 0 0 4))
def f_X3_compare (v_this_fewestFrozen : Int32) (v_this_mostHealth : Int32) (v_p0_frozen : Int32) (v_p0_healths : Nat → Int32) (v_this_askers : Nat → Int32) (v_this_best : Nat → Int32) : Option (Int32 × Int32 × (Nat → Int32)) := (f_J6_bitCount_0f7a4 v_p0_frozen).bind fun y1 => (f_X7_healthOfAll v_p0_healths).bind fun y3 => if y1 < v_this_fewestFrozen then (f_X3_compare_b37 v_p0_frozen v_p0_healths v_this_askers y1 y3 v_this_fewestFrozen v_this_mostHealth v_this_best) else (if y1 = v_this_fewestFrozen then (if y3 ≤ v_this_mostHealth then (some (v_this_fewestFrozen, v_this_mostHealth, v_this_best)) else (f_X3_compare_b37 v_p0_frozen v_p0_healths v_this_askers y1 y3 v_this_fewestFrozen v_this_mostHealth v_this_best)) else (some (v_this_fewestFrozen, v_this_mostHealth, v_this_best)))
def w_X3_compare (cyI cyZ cyW : ClassId) (a_this : Nat) (v_this_fewestFrozen : Int32) (v_this_mostHealth : Int32) (a_this_best : Nat) (a_this_askers : Nat) (a_this_winters : Nat) (a_p0 : Nat) (v_p0_date : Int32) (v_p0_frozen : Int32) (a_p0_healths : Nat) (a_p0_favourers : Nat) (v_p0_healths : Nat → Int32) (v_this_askers : Nat → Int32) (v_this_best : Nat → Int32) : va_W := [(a_this, .inr (3, [.int v_this_fewestFrozen, .int v_this_mostHealth, .ref a_this_best, .ref a_this_askers, .ref a_this_winters])), (a_p0, .inr (7, [.int v_p0_date, .int v_p0_frozen, .ref a_p0_healths, .ref a_p0_favourers])), (a_p0_healths, .inl (cyI, 7, .inl v_p0_healths)), (a_this_askers, .inl (cyI, 4, .inl v_this_askers)), (a_this_best, .inl (cyI, 4, .inl v_this_best))]
set_option maxHeartbeats 4000000 in
set_option maxRecDepth 100000 in
theorem c_X3_compare (l : Launch) (D : va_G) (cyI cyZ cyW : ClassId) (a_this : Nat) (v_this_fewestFrozen : Int32) (v_this_mostHealth : Int32) (a_this_best : Nat) (a_this_askers : Nat) (a_this_winters : Nat) (a_p0 : Nat) (v_p0_date : Int32) (v_p0_frozen : Int32) (a_p0_healths : Nat) (a_p0_favourers : Nat) (v_p0_healths : Nat → Int32) (v_this_askers : Nat → Int32) (v_this_best : Nat → Int32) (res : Int32 × Int32 × (Nat → Int32)) (hf : f_X3_compare v_this_fewestFrozen v_this_mostHealth v_p0_frozen v_p0_healths v_this_askers v_this_best = some res) : ∀ sz, Met l yX3_compare wsX3_compare { frames := 1, cells := 0, slots := 0, locals := 60 } (PCx D (tyG cyI cyZ cyW) [.ref a_this, .ref a_p0] (w_X3_compare cyI cyZ cyW a_this v_this_fewestFrozen v_this_mostHealth a_this_best a_this_askers a_this_winters a_p0 v_p0_date v_p0_frozen a_p0_healths a_p0_favourers v_p0_healths v_this_askers v_this_best) sz) (QV D (tyG cyI cyZ cyW) (w_X3_compare cyI cyZ cyW a_this v_this_fewestFrozen v_this_mostHealth a_this_best a_this_askers a_this_winters a_p0 v_p0_date v_p0_frozen a_p0_healths a_p0_favourers v_p0_healths v_this_askers v_this_best) sz (w_X3_compare cyI cyZ cyW a_this res.1 res.2.1 a_this_best a_this_askers a_this_winters a_p0 v_p0_date v_p0_frozen a_p0_healths a_p0_favourers v_p0_healths v_this_askers res.2.2)) 0 0 (va_A (w_X3_compare cyI cyZ cyW a_this v_this_fewestFrozen v_this_mostHealth a_this_best a_this_askers a_this_winters a_p0 v_p0_date v_p0_frozen a_p0_healths a_p0_favourers v_p0_healths v_this_askers v_this_best) sz) := by
  intro sz
  refine met_of (cc := cX3_compare) (maxL := 4) (ret := none) (lv0 := [(0, .ref a_this), (1, .ref a_p0)]) (by decide) rfl ⟨(Nat.le_of_ble_eq_true rfl), rfl⟩ ?_
  intro p e s m below meth c C hr hlk hnm hsz
  subst hsz
  have C : CX p s m _ c 4 cX3_compare RX3 wsX3_compare D (tyG cyI cyZ cyW) _ := C
  obtain ⟨Z, hZ⟩ : ∃ Z : va_W → Nat → LV → List Value → Prop, Z = ST p l e { frames := 1, cells := 0, slots := 0, locals := 60 } s m [.ref a_this, .ref a_p0].toArray below meth c 4 D (va_A (w_X3_compare cyI cyZ cyW a_this v_this_fewestFrozen v_this_mostHealth a_this_best a_this_askers a_this_winters a_p0 v_p0_date v_p0_frozen a_p0_healths a_p0_favourers v_p0_healths v_this_askers v_this_best) s.heap.size) (MQ below (QV D (tyG cyI cyZ cyW) (w_X3_compare cyI cyZ cyW a_this v_this_fewestFrozen v_this_mostHealth a_this_best a_this_askers a_this_winters a_p0 v_p0_date v_p0_frozen a_p0_healths a_p0_favourers v_p0_healths v_this_askers v_this_best) s.heap.size (w_X3_compare cyI cyZ cyW a_this res.1 res.2.1 a_this_best a_this_askers a_this_winters a_p0 v_p0_date v_p0_frozen a_p0_healths a_p0_favourers v_p0_healths v_this_askers res.2.2)) [.ref a_this, .ref a_p0].toArray s 0 0 (va_A (w_X3_compare cyI cyZ cyW a_this v_this_fewestFrozen v_this_mostHealth a_this_best a_this_askers a_this_winters a_p0 v_p0_date v_p0_frozen a_p0_healths a_p0_favourers v_p0_healths v_this_askers v_this_best) s.heap.size)) 0 0 := ⟨_, rfl⟩
  have hb_37 : ∀ (x2 : Int32) (x3 : Int32) (v_this_fewestFrozen : Int32) (v_this_mostHealth : Int32) (v_this_best : Nat → Int32), f_X3_compare_b37 v_p0_frozen v_p0_healths v_this_askers x2 x3 v_this_fewestFrozen v_this_mostHealth v_this_best = some res → Z (w_X3_compare cyI cyZ cyW a_this v_this_fewestFrozen v_this_mostHealth a_this_best a_this_askers a_this_winters a_p0 v_p0_date v_p0_frozen a_p0_healths a_p0_favourers v_p0_healths v_this_askers v_this_best) 37 [(0, .ref a_this), (2, .int x2), (3, .int x3)] [] := by
    subst hZ
    intro x2 x3 v_this_fewestFrozen v_this_mostHealth v_this_best hf
    refine r_aload_n C dX3_compare_37 rfl 0 rfl ?_
    refine r_iload_n C dX3_compare_38 rfl 1 rfl ?_
    refine r_put (ws' := (w_X3_compare cyI cyZ cyW a_this x2 v_this_mostHealth a_this_best a_this_askers a_this_winters a_p0 v_p0_date v_p0_frozen a_p0_healths a_p0_favourers v_p0_healths v_this_askers v_this_best)) C in_X3_compare_X3 tyX3 tyX3_ok nmX3 0 rfl rfl 0 (by decide) lk_X3_compare_2 rfl rfl rfl rfl (Nat.le_of_ble_eq_true rfl) rfl dX3_compare_39 ?_
    refine r_aload_n C dX3_compare_42 rfl 0 rfl ?_
    refine r_iload_n C dX3_compare_43 rfl 2 rfl ?_
    refine r_put (ws' := (w_X3_compare cyI cyZ cyW a_this x2 x3 a_this_best a_this_askers a_this_winters a_p0 v_p0_date v_p0_frozen a_p0_healths a_p0_favourers v_p0_healths v_this_askers v_this_best)) C in_X3_compare_X3 tyX3 tyX3_ok nmX3 0 rfl rfl 1 (by decide) lk_X3_compare_3 rfl rfl rfl rfl (Nat.le_of_ble_eq_true rfl) rfl dX3_compare_44 ?_
    refine r_aload_n C dX3_compare_47 rfl 0 rfl ?_
    refine r_get C in_X3_compare_X3 0 rfl rfl 3 (by decide) lk_X3_compare_4 rfl rfl dX3_compare_48 ?_
    refine r_iconst C 0 dX3_compare_51 (by decide) ?_
    refine r_aload_n C dX3_compare_52 rfl 0 rfl ?_
    refine r_get C in_X3_compare_X3 0 rfl rfl 2 (by decide) lk_X3_compare_5 rfl rfl dX3_compare_53 ?_
    refine r_iconst C 0 dX3_compare_56 (by decide) ?_
    refine r_iconst C 4 dX3_compare_57 (by decide) ?_
    refine r_copyi (ws' := (w_X3_compare cyI cyZ cyW a_this x2 x3 a_this_best a_this_askers a_this_winters a_p0 v_p0_date v_p0_frozen a_p0_healths a_p0_favourers v_p0_healths v_this_askers (va_cpy v_this_askers v_this_best 0 0 4))) C lk_X3_compare_6 lk_X3_compare_7 lk_X3_compare_8 lk_X3_compare_9 3 4 0 rfl rfl rfl rfl (by decide) (by decide) (by decide) 4 ⟨by decide, by decide, by decide⟩ (by decide) (by decide) (Nat.le_of_ble_eq_true rfl) (by decide) rfl dX3_compare_58 ?_
    rw [← Option.some.inj hf]
    exact r_vret C hr hlk dX3_compare_61
  subst hZ
  refine r_aload_n C dX3_compare_0 rfl 1 rfl ?_
  refine r_get C in_X3_compare_X7 1 rfl rfl 1 (by decide) lk_X3_compare_1 rfl rfl dX3_compare_1 ?_
  obtain ⟨y1, hy2, hf⟩ := bd_some hf
  refine r_roS_i (As := [.int v_p0_frozen]) (rest := []) C (c_J6_bitCount_0f7a4 l D cyI cyZ cyW v_p0_frozen y1 hy2) gX3_compare_J6_bitCount_0f7a4 rfl hyS_J6_bitCount_0f7a4 ⟨rfl, rfl, (Nat.le_of_ble_eq_true rfl), (Nat.le_of_ble_eq_true rfl)⟩ rfl [] rfl rfl rfl (Nat.le_of_ble_eq_true rfl) ⟨Nat.zero_le _, Nat.zero_le _⟩ dX3_compare_4 ?_
  refine r_istore_n (lv' := [(2, .int y1), (0, .ref a_this), (1, .ref a_p0)]) C dX3_compare_7 rfl (by decide) rfl ?_
  refine r_aload_n C dX3_compare_8 rfl 2 rfl ?_
  obtain ⟨y3, hy4, hf⟩ := bd_some hf
  refine r_roV_i (As := []) (rest := []) C (c_X7_healthOfAll l D cyI cyZ cyW a_p0 v_p0_date v_p0_frozen a_p0_healths a_p0_favourers v_p0_healths y3 hy4) gX3_compare_X7_healthOfAll rfl hyV_X7_healthOfAll ⟨rfl, rfl, (Nat.le_of_ble_eq_true rfl), (Nat.le_of_ble_eq_true rfl)⟩ rfl 1 rfl rfl [1, 2] rfl rfl rfl (Nat.le_of_ble_eq_true rfl) ⟨Nat.zero_le _, Nat.zero_le _⟩ dX3_compare_9 ?_
  refine r_istore_n (lv' := [(3, .int y3), (2, .int y1), (0, .ref a_this), (1, .ref a_p0)]) C dX3_compare_12 rfl (by decide) rfl ?_
  refine r_iload_n C dX3_compare_13 rfl 1 rfl ?_
  refine r_aload_n C dX3_compare_14 rfl 2 rfl ?_
  refine r_get C in_X3_compare_X3 0 rfl rfl 0 (by decide) lk_X3_compare_2 rfl rfl dX3_compare_15 ?_
  refine r_icmp_lt C 37 dX3_compare_18 (by decide) hf (fun hf => ?_) (fun hf => ?_)
  · exact ST_lv [2, 1, 0] rfl (hb_37 y1 y3 v_this_fewestFrozen v_this_mostHealth v_this_best hf)
  · refine r_iload_n C dX3_compare_21 rfl 1 rfl ?_
    refine r_aload_n C dX3_compare_22 rfl 2 rfl ?_
    refine r_get C in_X3_compare_X3 0 rfl rfl 0 (by decide) lk_X3_compare_2 rfl rfl dX3_compare_23 ?_
    refine r_icmp_ne C 61 dX3_compare_26 (by decide) hf (fun hf => ?_) (fun hf => ?_)
    · rw [← Option.some.inj hf]
      exact r_vret C hr hlk dX3_compare_61
    · refine r_iload_n C dX3_compare_29 rfl 0 rfl ?_
      refine r_aload_n C dX3_compare_30 rfl 2 rfl ?_
      refine r_get C in_X3_compare_X3 0 rfl rfl 1 (by decide) lk_X3_compare_3 rfl rfl dX3_compare_31 ?_
      refine r_icmp_le C 61 dX3_compare_34 (by decide) hf (fun hf => ?_) (fun hf => ?_)
      · rw [← Option.some.inj hf]
        exact r_vret C hr hlk dX3_compare_61
      · exact ST_lv [2, 1, 0] rfl (hb_37 y1 y3 v_this_fewestFrozen v_this_mostHealth v_this_best hf)
