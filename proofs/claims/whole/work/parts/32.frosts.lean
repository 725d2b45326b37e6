theorem lk_X8_waysOfFrosts_1 : Cond.arrayClass .int ∈ wsX8_waysOfFrosts := List.mem_of_getElem? (i := 1) rfl
def f_X8_waysOfFrosts_s20 (k_11 : Int32 → Int32 → Int32 → (Nat → Int32) → Option ((Nat → Int32))) (k_20 : Int32 → Int32 → Int32 → Int32 → (Nat → Int32) → Option ((Nat → Int32))) (x0 : Int32) (x1 : Int32) (x3 : Int32) (x4 : Int32) (v_N0 : Nat → Int32) : Option ((Nat → Int32)) := if x4 ≤ 0 then (k_11 x0 x1 (x3 + 1) (upd v_N0 0 ((v_N0 0) * (10 - x1)))) else (gd_ x4 7 (gd_ (x4 - 1) 7 (gd_ x4 7 (k_20 x0 x1 x3 (x4 + (-1)) (upd v_N0 (Int32.toNatClampNeg x4) (((v_N0 (Int32.toNatClampNeg x4)) * (10 - x1)) + ((v_N0 (Int32.toNatClampNeg (x4 - 1))) * x1)))))))
def f_X8_waysOfFrosts_b20 (k_11 : Int32 → Int32 → Int32 → (Nat → Int32) → Option ((Nat → Int32))) (n : Nat) : Int32 → Int32 → Int32 → Int32 → (Nat → Int32) → Option ((Nat → Int32)) := it_ (f_X8_waysOfFrosts_s20 k_11) (fun _ _ _ _ _ => none) n
def f_X8_waysOfFrosts_s11 (k_11 : Int32 → Int32 → Int32 → (Nat → Int32) → Option ((Nat → Int32))) (x0 : Int32) (x1 : Int32) (x3 : Int32) (v_N0 : Nat → Int32) : Option ((Nat → Int32)) := if x0 ≤ x3 then (some v_N0) else (f_X8_waysOfFrosts_b20 k_11 5000 x0 x1 x3 6 v_N0)
def f_X8_waysOfFrosts_b11 (n : Nat) : Int32 → Int32 → Int32 → (Nat → Int32) → Option ((Nat → Int32)) := it_ (f_X8_waysOfFrosts_s11 ) (fun _ _ _ _ => none) n
def f_X8_waysOfFrosts (x0 : Int32) (x1 : Int32) : Option ((Nat → Int32)) := f_X8_waysOfFrosts_b11 5000 x0 x1 0 (upd (fun _ => 0) 0 1)
def w_X8_waysOfFrosts (cyI cyZ cyW : ClassId) (a_N0 : Nat) (v_N0 : Nat → Int32) : va_W := [(a_N0, .inl (cyI, 7, .inl v_N0))]
set_option maxHeartbeats 4000000 in
set_option maxRecDepth 100000 in
theorem c_X8_waysOfFrosts (l : Launch) (D : va_G) (cyI cyZ cyW : ClassId) (x0 : Int32) (x1 : Int32) (res : (Nat → Int32)) (hf : f_X8_waysOfFrosts x0 x1 = some res) : ∀ sz, Met l yX8_waysOfFrosts wsX8_waysOfFrosts { frames := 0, cells := 1, slots := 7, locals := 0 } (PCx D (tyG cyI cyZ cyW) [.int x0, .int x1] [] sz) (QA D (tyG cyI cyZ cyW) [] sz (fun a => [(a, .inl (cyI, 7, .inl res))])) 1 7 (va_A [] sz) := by
  intro sz
  refine met_of (cc := cX8_waysOfFrosts) (maxL := 5) (ret := (some (.array .int))) (lv0 := [(0, .int x0), (1, .int x1)]) (by decide) rfl ⟨(Nat.le_of_ble_eq_true rfl), rfl⟩ ?_
  intro p e s m below meth c C hr hlk hnm hsz
  subst hsz
  have C : CX p s m _ c 5 cX8_waysOfFrosts RX8 wsX8_waysOfFrosts D (tyG cyI cyZ cyW) _ := C
  obtain ⟨Z, hZ⟩ : ∃ Z : va_W → Nat → LV → List Value → Prop, Z = ST p l e { frames := 0, cells := 1, slots := 7, locals := 0 } s m [.int x0, .int x1].toArray below meth c 5 D (va_A [] s.heap.size) (MQ below (QA D (tyG cyI cyZ cyW) [] s.heap.size (fun a => [(a, .inl (cyI, 7, .inl res))])) [.int x0, .int x1].toArray s 1 7 (va_A [] s.heap.size)) 1 7 := ⟨_, rfl⟩
  have hs_20 : ∀ (a_N0 : Nat), ∀ (k_11 : Int32 → Int32 → Int32 → (Nat → Int32) → Option ((Nat → Int32))), (∀ (x0 : Int32) (x1 : Int32) (x3 : Int32) (v_N0 : Nat → Int32), k_11 x0 x1 x3 v_N0 = some res → Z (w_X8_waysOfFrosts cyI cyZ cyW a_N0 v_N0) 11 [(0, .int x0), (1, .int x1), (2, .ref a_N0), (3, .int x3)] []) → ∀ (k_20 : Int32 → Int32 → Int32 → Int32 → (Nat → Int32) → Option ((Nat → Int32))), (∀ (x0 : Int32) (x1 : Int32) (x3 : Int32) (x4 : Int32) (v_N0 : Nat → Int32), k_20 x0 x1 x3 x4 v_N0 = some res → Z (w_X8_waysOfFrosts cyI cyZ cyW a_N0 v_N0) 20 [(0, .int x0), (1, .int x1), (2, .ref a_N0), (3, .int x3), (4, .int x4)] []) → ∀ (x0 : Int32) (x1 : Int32) (x3 : Int32) (x4 : Int32) (v_N0 : Nat → Int32), f_X8_waysOfFrosts_s20 k_11 k_20 x0 x1 x3 x4 v_N0 = some res → Z (w_X8_waysOfFrosts cyI cyZ cyW a_N0 v_N0) 20 [(0, .int x0), (1, .int x1), (2, .ref a_N0), (3, .int x3), (4, .int x4)] [] := by
    subst hZ
    intro a_N0 k_11 hk_11 k_20 hk_20 x0 x1 x3 x4 v_N0 hf
    refine r_iload C dX8_waysOfFrosts_20 4 rfl ?_
    refine r_if_le C 53 dX8_waysOfFrosts_22 (by decide) hf (fun hf => ?_) (fun hf => ?_)
    · refine r_aload_n C dX8_waysOfFrosts_53 rfl 2 rfl ?_
      refine r_iconst C 0 dX8_waysOfFrosts_54 (by decide) ?_
      refine r_dup2_11 C dX8_waysOfFrosts_55 rfl rfl ?_
      refine r_iald_k C 0 0 0 rfl rfl (kk_ 0 7 (by decide) (by decide)) dX8_waysOfFrosts_56 ?_
      refine r_bipush C 10 dX8_waysOfFrosts_57 (by decide) ?_
      refine r_iload_n C dX8_waysOfFrosts_59 rfl 1 rfl ?_
      refine r_isub C dX8_waysOfFrosts_60 ?_
      refine r_imul C dX8_waysOfFrosts_61 ?_
      refine r_iast_k (ws' := (w_X8_waysOfFrosts cyI cyZ cyW a_N0 (upd v_N0 0 ((v_N0 0) * (10 - x1))))) C 0 0 0 rfl rfl (kk_ 0 7 (by decide) (by decide)) rfl dX8_waysOfFrosts_62 ?_
      refine r_iinc (v := 1) (k := 3) (lv' := [(3, .int (x3 + 1)), (0, .int x0), (1, .int x1), (2, .ref a_N0), (4, .int x4)]) C dX8_waysOfFrosts_63 rfl (by decide) (by decide) rfl ?_
      refine r_goto C 11 dX8_waysOfFrosts_66 (by decide) ?_
      exact ST_lv [1, 2, 3, 0] rfl (hk_11 x0 x1 (x3 + 1) (upd v_N0 0 ((v_N0 0) * (10 - x1))) hf)
    · refine r_aload_n C dX8_waysOfFrosts_25 rfl 2 rfl ?_
      refine r_iload C dX8_waysOfFrosts_26 4 rfl ?_
      refine r_aload_n C dX8_waysOfFrosts_28 rfl 2 rfl ?_
      refine r_iload C dX8_waysOfFrosts_29 4 rfl ?_
      obtain ⟨hi1, hf⟩ := gd_some hf
      refine r_iald C 0 0 rfl rfl hi1 dX8_waysOfFrosts_31 ?_
      refine r_bipush C 10 dX8_waysOfFrosts_32 (by decide) ?_
      refine r_iload_n C dX8_waysOfFrosts_34 rfl 1 rfl ?_
      refine r_isub C dX8_waysOfFrosts_35 ?_
      refine r_imul C dX8_waysOfFrosts_36 ?_
      refine r_aload_n C dX8_waysOfFrosts_37 rfl 2 rfl ?_
      refine r_iload C dX8_waysOfFrosts_38 4 rfl ?_
      refine r_iconst C 1 dX8_waysOfFrosts_40 (by decide) ?_
      refine r_isub C dX8_waysOfFrosts_41 ?_
      obtain ⟨hi2, hf⟩ := gd_some hf
      refine r_iald C 0 0 rfl rfl hi2 dX8_waysOfFrosts_42 ?_
      refine r_iload_n C dX8_waysOfFrosts_43 rfl 1 rfl ?_
      refine r_imul C dX8_waysOfFrosts_44 ?_
      refine r_iadd C dX8_waysOfFrosts_45 ?_
      obtain ⟨hi3, hf⟩ := gd_some hf
      refine r_iast (ws' := (w_X8_waysOfFrosts cyI cyZ cyW a_N0 (upd v_N0 (Int32.toNatClampNeg x4) (((v_N0 (Int32.toNatClampNeg x4)) * (10 - x1)) + ((v_N0 (Int32.toNatClampNeg (x4 - 1))) * x1))))) C 0 0 rfl rfl hi3 rfl dX8_waysOfFrosts_46 ?_
      refine r_iinc (v := (-1)) (k := 4) (lv' := [(4, .int (x4 + (-1))), (0, .int x0), (1, .int x1), (2, .ref a_N0), (3, .int x3)]) C dX8_waysOfFrosts_47 rfl (by decide) (by decide) rfl ?_
      refine r_goto C 20 dX8_waysOfFrosts_50 (by decide) ?_
      exact ST_lv [1, 2, 3, 4, 0] rfl (hk_20 x0 x1 x3 (x4 + (-1)) (upd v_N0 (Int32.toNatClampNeg x4) (((v_N0 (Int32.toNatClampNeg x4)) * (10 - x1)) + ((v_N0 (Int32.toNatClampNeg (x4 - 1))) * x1))) hf)
  have hb_20 : ∀ (a_N0 : Nat), ∀ (k_11 : Int32 → Int32 → Int32 → (Nat → Int32) → Option ((Nat → Int32))), (∀ (x0 : Int32) (x1 : Int32) (x3 : Int32) (v_N0 : Nat → Int32), k_11 x0 x1 x3 v_N0 = some res → Z (w_X8_waysOfFrosts cyI cyZ cyW a_N0 v_N0) 11 [(0, .int x0), (1, .int x1), (2, .ref a_N0), (3, .int x3)] []) → ∀ (n : Nat) (x0 : Int32) (x1 : Int32) (x3 : Int32) (x4 : Int32) (v_N0 : Nat → Int32), f_X8_waysOfFrosts_b20 k_11 n x0 x1 x3 x4 v_N0 = some res → Z (w_X8_waysOfFrosts cyI cyZ cyW a_N0 v_N0) 20 [(0, .int x0), (1, .int x1), (2, .ref a_N0), (3, .int x3), (4, .int x4)] [] := by
    intro a_N0 k_11 hk_11 n
    induction n with
    | zero => intro x0 x1 x3 x4 v_N0 hf; exact nn_ hf
    | succ n ih => exact fun x0 x1 x3 x4 v_N0 hf => hs_20 a_N0 k_11 hk_11 _ ih x0 x1 x3 x4 v_N0 hf
  have hs_11 : ∀ (a_N0 : Nat), ∀ (k_11 : Int32 → Int32 → Int32 → (Nat → Int32) → Option ((Nat → Int32))), (∀ (x0 : Int32) (x1 : Int32) (x3 : Int32) (v_N0 : Nat → Int32), k_11 x0 x1 x3 v_N0 = some res → Z (w_X8_waysOfFrosts cyI cyZ cyW a_N0 v_N0) 11 [(0, .int x0), (1, .int x1), (2, .ref a_N0), (3, .int x3)] []) → ∀ (x0 : Int32) (x1 : Int32) (x3 : Int32) (v_N0 : Nat → Int32), f_X8_waysOfFrosts_s11 k_11 x0 x1 x3 v_N0 = some res → Z (w_X8_waysOfFrosts cyI cyZ cyW a_N0 v_N0) 11 [(0, .int x0), (1, .int x1), (2, .ref a_N0), (3, .int x3)] [] := by
    subst hZ
    intro a_N0 k_11 hk_11 x0 x1 x3 v_N0 hf
    refine r_iload_n C dX8_waysOfFrosts_11 rfl 3 rfl ?_
    refine r_iload_n C dX8_waysOfFrosts_12 rfl 0 rfl ?_
    refine r_icmp_ge C 69 dX8_waysOfFrosts_13 (by decide) hf (fun hf => ?_) (fun hf => ?_)
    · refine r_aload_n C dX8_waysOfFrosts_69 rfl 2 rfl ?_
      rw [← Option.some.inj hf]
      exact r_aret C rfl hr ⟨_, rfl⟩ hlk dX8_waysOfFrosts_70
    · refine r_bipush C 6 dX8_waysOfFrosts_16 (by decide) ?_
      refine r_istore (lv' := [(4, .int 6), (0, .int x0), (1, .int x1), (2, .ref a_N0), (3, .int x3)]) C dX8_waysOfFrosts_18 (by decide) rfl ?_
      exact ST_lv [1, 2, 3, 4, 0] rfl (hb_20 a_N0 k_11 hk_11 5000 x0 x1 x3 6 v_N0 hf)
  have hb_11 : ∀ (a_N0 : Nat), ∀ (n : Nat) (x0 : Int32) (x1 : Int32) (x3 : Int32) (v_N0 : Nat → Int32), f_X8_waysOfFrosts_b11 n x0 x1 x3 v_N0 = some res → Z (w_X8_waysOfFrosts cyI cyZ cyW a_N0 v_N0) 11 [(0, .int x0), (1, .int x1), (2, .ref a_N0), (3, .int x3)] [] := by
    intro a_N0 n
    induction n with
    | zero => intro x0 x1 x3 v_N0 hf; exact nn_ hf
    | succ n ih => exact fun x0 x1 x3 v_N0 hf => hs_11 a_N0 _ ih x0 x1 x3 v_N0 hf
  subst hZ
  refine r_bipush C 7 dX8_waysOfFrosts_0 (by decide) ?_
  refine r_newi (N := 7) C lk_X8_waysOfFrosts_1 (by decide) (by decide) (by decide) (Nat.le_of_ble_eq_true rfl) (Nat.le_of_ble_eq_true rfl) dX8_waysOfFrosts_2 (fun a_N0 => ?_)
  refine ST.eq (ws' := (w_X8_waysOfFrosts cyI cyZ cyW a_N0 (fun _ => 0))) rfl rfl rfl ?_
  refine r_astore_n (lv' := [(2, .ref a_N0), (0, .int x0), (1, .int x1)]) C dX8_waysOfFrosts_4 rfl (by decide) rfl ?_
  refine r_aload_n C dX8_waysOfFrosts_5 rfl 0 rfl ?_
  refine r_iconst C 0 dX8_waysOfFrosts_6 (by decide) ?_
  refine r_iconst C 1 dX8_waysOfFrosts_7 (by decide) ?_
  refine r_iast_k (ws' := (w_X8_waysOfFrosts cyI cyZ cyW a_N0 (upd (fun _ => 0) 0 1))) C 0 0 0 rfl rfl (kk_ 0 7 (by decide) (by decide)) rfl dX8_waysOfFrosts_8 ?_
  refine r_iconst C 0 dX8_waysOfFrosts_9 (by decide) ?_
  refine r_istore_n (lv' := [(3, .int 0), (2, .ref a_N0), (0, .int x0), (1, .int x1)]) C dX8_waysOfFrosts_10 rfl (by decide) rfl ?_
  exact ST_lv [2, 3, 1, 0] rfl (hb_11 a_N0 5000 x0 x1 0 (upd (fun _ => 0) 0 1) hf)

theorem hyV_X8_waysOfFrosts : yX8_waysOfFrosts.cls = RX8 ∧ yX8_waysOfFrosts.cls ≠ "java/lang/invoke/MethodHandle" ∧ yX8_waysOfFrosts.cls ≠ "java/lang/invoke/VarHandle" ∧ (parseMethodDescriptor yX8_waysOfFrosts.desc).map (fun d => d.parameters.length) = some 2 := by decide +kernel
theorem hyS_X8_waysOfFrosts : yX8_waysOfFrosts.cls ≠ "java/lang/invoke/MethodHandle" ∧ yX8_waysOfFrosts.cls ≠ "java/lang/invoke/VarHandle" ∧ (parseMethodDescriptor yX8_waysOfFrosts.desc).map (fun d => d.parameters.length) = some 2 := by decide +kernel
def f_X8_frosts_s85 (k_85 : Int32 → Int32 → Int32 → Int32 → Int32 → (Nat → Int32) → Option (Int32)) (x1 : Int32) (x4 : Int32) (x5 : Int32) (x6 : Int32) (x8 : Int32) (v_N0 : Nat → Int32) : Option (Int32) := if x1 ≤ x8 then ((f_X8_partOf x5 x6 x4).bind fun y6 => some (y6)) else (k_85 x1 x4 x5 (x6 * 10) (x8 + 1) v_N0)
def f_X8_frosts_b85 (n : Nat) : Int32 → Int32 → Int32 → Int32 → Int32 → (Nat → Int32) → Option (Int32) := it_ (f_X8_frosts_s85 ) (fun _ _ _ _ _ _ => none) n
def f_X8_frosts_s60 (k_60 : Int32 → Int32 → Int32 → Int32 → Int32 → (Nat → Int32) → Option (Int32)) (x1 : Int32) (x4 : Int32) (x5 : Int32) (x6 : Int32) (x8 : Int32) (v_N0 : Nat → Int32) : Option (Int32) := if x1 < x8 then (f_X8_frosts_b85 5000 x1 x4 x5 x6 0 v_N0) else (gd_ x8 7 (k_60 x1 x4 (x5 + (v_N0 (Int32.toNatClampNeg x8))) x6 (x8 + 1) v_N0))
def f_X8_frosts_b60 (n : Nat) : Int32 → Int32 → Int32 → Int32 → Int32 → (Nat → Int32) → Option (Int32) := it_ (f_X8_frosts_s60 ) (fun _ _ _ _ _ _ => none) n
def f_X8_frosts (x1 : Int32) (x2 : Int32) (x3 : Int32) (x4 : Int32) : Option (Int32) := if x1 < 0 then (some ((-3))) else (if 6 < x1 then (some ((-3))) else (if x2 < 0 then (some ((-3))) else (if x2 ≤ 6 then (if x3 < 0 then (some ((-3))) else (if 10 < x3 then (some ((-3))) else ((f_X8_isYesOrNo x4).bind fun y1 => if y1 = 0 then (some ((-3))) else ((f_X8_waysOfFrosts x1 x3).bind fun y3 => f_X8_frosts_b60 5000 x1 x4 0 1 x2 y3)))) else (some ((-3))))))
def w_X8_frosts (cyI cyZ cyW : ClassId) (a_this : Nat) (a_this_reader : Nat) (a_this_text : Nat) (a_this_told : Nat) (a_this_now : Nat) (a_this_past : Nat) (a_this_votes : Nat) (a_this_smallest : Nat) (a_this_rota : Nat) (a_N0 : Nat) (v_N0 : Nat → Int32) : va_W := [(a_this, .inr (8, [.ref a_this_reader, .ref a_this_text, .ref a_this_told, .ref a_this_now, .ref a_this_past, .ref a_this_votes, .ref a_this_smallest, .ref a_this_rota])), (a_N0, .inl (cyI, 7, .inl v_N0))]
set_option maxHeartbeats 4000000 in
set_option maxRecDepth 100000 in
theorem c_X8_frosts (l : Launch) (D : va_G) (cyI cyZ cyW : ClassId) (a_this : Nat) (a_this_reader : Nat) (a_this_text : Nat) (a_this_told : Nat) (a_this_now : Nat) (a_this_past : Nat) (a_this_votes : Nat) (a_this_smallest : Nat) (a_this_rota : Nat) (x1 : Int32) (x2 : Int32) (x3 : Int32) (x4 : Int32) (res : Int32) (hf : f_X8_frosts x1 x2 x3 x4 = some res) : ∀ sz, Met l yX8_frosts wsX8_frosts { frames := 2, cells := 1, slots := 7, locals := 48 } (PCx D (tyG cyI cyZ cyW) [.ref a_this, .int x1, .int x2, .int x3, .int x4] [(a_this, .inr (8, [.ref a_this_reader, .ref a_this_text, .ref a_this_told, .ref a_this_now, .ref a_this_past, .ref a_this_votes, .ref a_this_smallest, .ref a_this_rota]))] sz) (QI D (tyG cyI cyZ cyW) [(a_this, .inr (8, [.ref a_this_reader, .ref a_this_text, .ref a_this_told, .ref a_this_now, .ref a_this_past, .ref a_this_votes, .ref a_this_smallest, .ref a_this_rota]))] sz res [(a_this, .inr (8, [.ref a_this_reader, .ref a_this_text, .ref a_this_told, .ref a_this_now, .ref a_this_past, .ref a_this_votes, .ref a_this_smallest, .ref a_this_rota]))]) 1 7 (va_A [(a_this, .inr (8, [.ref a_this_reader, .ref a_this_text, .ref a_this_told, .ref a_this_now, .ref a_this_past, .ref a_this_votes, .ref a_this_smallest, .ref a_this_rota]))] sz) := by
  intro sz
  refine met_of (cc := cX8_frosts) (maxL := 9) (ret := (some .int)) (lv0 := [(0, .ref a_this), (1, .int x1), (2, .int x2), (3, .int x3), (4, .int x4)]) (by decide) rfl ⟨(Nat.le_of_ble_eq_true rfl), rfl⟩ ?_
  intro p e s m below meth c C hr hlk hnm hsz
  subst hsz
  have C : CX p s m _ c 9 cX8_frosts RX8 wsX8_frosts D (tyG cyI cyZ cyW) _ := C
  obtain ⟨Z, hZ⟩ : ∃ Z : va_W → Nat → LV → List Value → Prop, Z = ST p l e { frames := 2, cells := 1, slots := 7, locals := 48 } s m [.ref a_this, .int x1, .int x2, .int x3, .int x4].toArray below meth c 9 D (va_A [(a_this, .inr (8, [.ref a_this_reader, .ref a_this_text, .ref a_this_told, .ref a_this_now, .ref a_this_past, .ref a_this_votes, .ref a_this_smallest, .ref a_this_rota]))] s.heap.size) (MQ below (QI D (tyG cyI cyZ cyW) [(a_this, .inr (8, [.ref a_this_reader, .ref a_this_text, .ref a_this_told, .ref a_this_now, .ref a_this_past, .ref a_this_votes, .ref a_this_smallest, .ref a_this_rota]))] s.heap.size res [(a_this, .inr (8, [.ref a_this_reader, .ref a_this_text, .ref a_this_told, .ref a_this_now, .ref a_this_past, .ref a_this_votes, .ref a_this_smallest, .ref a_this_rota]))]) [.ref a_this, .int x1, .int x2, .int x3, .int x4].toArray s 1 7 (va_A [(a_this, .inr (8, [.ref a_this_reader, .ref a_this_text, .ref a_this_told, .ref a_this_now, .ref a_this_past, .ref a_this_votes, .ref a_this_smallest, .ref a_this_rota]))] s.heap.size)) 1 7 := ⟨_, rfl⟩
  have hs_85 : ∀ (a_N0 : Nat), ∀ (k_85 : Int32 → Int32 → Int32 → Int32 → Int32 → (Nat → Int32) → Option (Int32)), (∀ (x1 : Int32) (x4 : Int32) (x5 : Int32) (x6 : Int32) (x8 : Int32) (v_N0 : Nat → Int32), k_85 x1 x4 x5 x6 x8 v_N0 = some res → Z (w_X8_frosts cyI cyZ cyW a_this a_this_reader a_this_text a_this_told a_this_now a_this_past a_this_votes a_this_smallest a_this_rota a_N0 v_N0) 85 [(1, .int x1), (4, .int x4), (5, .int x5), (6, .int x6), (8, .int x8)] []) → ∀ (x1 : Int32) (x4 : Int32) (x5 : Int32) (x6 : Int32) (x8 : Int32) (v_N0 : Nat → Int32), f_X8_frosts_s85 k_85 x1 x4 x5 x6 x8 v_N0 = some res → Z (w_X8_frosts cyI cyZ cyW a_this a_this_reader a_this_text a_this_told a_this_now a_this_past a_this_votes a_this_smallest a_this_rota a_N0 v_N0) 85 [(1, .int x1), (4, .int x4), (5, .int x5), (6, .int x6), (8, .int x8)] [] := by
    subst hZ
    intro a_N0 k_85 hk_85 x1 x4 x5 x6 x8 v_N0 hf
    refine r_iload C dX8_frosts_85 4 rfl ?_
    refine r_iload_n C dX8_frosts_87 rfl 0 rfl ?_
    refine r_icmp_ge C 104 dX8_frosts_88 (by decide) hf (fun hf => ?_) (fun hf => ?_)
    · refine r_iload C dX8_frosts_104 2 rfl ?_
      refine r_iload C dX8_frosts_106 3 rfl ?_
      refine r_iload C dX8_frosts_108 1 rfl ?_
      obtain ⟨y6, hy7, hf⟩ := bd_some hf
      refine r_roS_i (As := [.int x5, .int x6, .int x4]) (rest := []) C (c_X8_partOf l D cyI cyZ cyW x5 x6 x4 y6 hy7) gX8_frosts_X8_partOf rfl hyS_X8_partOf ⟨rfl, rfl, (Nat.le_of_ble_eq_true rfl), (Nat.le_of_ble_eq_true rfl)⟩ rfl [] rfl rfl rfl (Nat.le_of_ble_eq_true rfl) ⟨Nat.le_of_ble_eq_true rfl, Nat.le_of_ble_eq_true rfl⟩ dX8_frosts_110 ?_
      refine ST_sub (ws' := [(a_this, .inr (8, [.ref a_this_reader, .ref a_this_text, .ref a_this_told, .ref a_this_now, .ref a_this_past, .ref a_this_votes, .ref a_this_smallest, .ref a_this_rota]))]) [0] rfl rfl ?_
      rw [← Option.some.inj hf]
      exact r_iret C hr hlk dX8_frosts_113
    · refine r_iload C dX8_frosts_91 3 rfl ?_
      refine r_bipush C 10 dX8_frosts_93 (by decide) ?_
      refine r_imul C dX8_frosts_95 ?_
      refine r_istore (lv' := [(6, .int (x6 * 10)), (1, .int x1), (4, .int x4), (5, .int x5), (8, .int x8)]) C dX8_frosts_96 (by decide) rfl ?_
      refine r_iinc (v := 1) (k := 4) (lv' := [(8, .int (x8 + 1)), (6, .int (x6 * 10)), (1, .int x1), (4, .int x4), (5, .int x5)]) C dX8_frosts_98 rfl (by decide) (by decide) rfl ?_
      refine r_goto C 85 dX8_frosts_101 (by decide) ?_
      exact ST_lv [2, 3, 4, 1, 0] rfl (hk_85 x1 x4 x5 (x6 * 10) (x8 + 1) v_N0 hf)
  have hb_85 : ∀ (a_N0 : Nat), ∀ (n : Nat) (x1 : Int32) (x4 : Int32) (x5 : Int32) (x6 : Int32) (x8 : Int32) (v_N0 : Nat → Int32), f_X8_frosts_b85 n x1 x4 x5 x6 x8 v_N0 = some res → Z (w_X8_frosts cyI cyZ cyW a_this a_this_reader a_this_text a_this_told a_this_now a_this_past a_this_votes a_this_smallest a_this_rota a_N0 v_N0) 85 [(1, .int x1), (4, .int x4), (5, .int x5), (6, .int x6), (8, .int x8)] [] := by
    intro a_N0 n
    induction n with
    | zero => intro x1 x4 x5 x6 x8 v_N0 hf; exact nn_ hf
    | succ n ih => exact fun x1 x4 x5 x6 x8 v_N0 hf => hs_85 a_N0 _ ih x1 x4 x5 x6 x8 v_N0 hf
  have hs_60 : ∀ (a_N0 : Nat), ∀ (k_60 : Int32 → Int32 → Int32 → Int32 → Int32 → (Nat → Int32) → Option (Int32)), (∀ (x1 : Int32) (x4 : Int32) (x5 : Int32) (x6 : Int32) (x8 : Int32) (v_N0 : Nat → Int32), k_60 x1 x4 x5 x6 x8 v_N0 = some res → Z (w_X8_frosts cyI cyZ cyW a_this a_this_reader a_this_text a_this_told a_this_now a_this_past a_this_votes a_this_smallest a_this_rota a_N0 v_N0) 60 [(1, .int x1), (4, .int x4), (5, .int x5), (6, .int x6), (7, .ref a_N0), (8, .int x8)] []) → ∀ (x1 : Int32) (x4 : Int32) (x5 : Int32) (x6 : Int32) (x8 : Int32) (v_N0 : Nat → Int32), f_X8_frosts_s60 k_60 x1 x4 x5 x6 x8 v_N0 = some res → Z (w_X8_frosts cyI cyZ cyW a_this a_this_reader a_this_text a_this_told a_this_now a_this_past a_this_votes a_this_smallest a_this_rota a_N0 v_N0) 60 [(1, .int x1), (4, .int x4), (5, .int x5), (6, .int x6), (7, .ref a_N0), (8, .int x8)] [] := by
    subst hZ
    intro a_N0 k_60 hk_60 x1 x4 x5 x6 x8 v_N0 hf
    refine r_iload C dX8_frosts_60 5 rfl ?_
    refine r_iload_n C dX8_frosts_62 rfl 0 rfl ?_
    refine r_icmp_gt C 82 dX8_frosts_63 (by decide) hf (fun hf => ?_) (fun hf => ?_)
    · refine r_iconst C 0 dX8_frosts_82 (by decide) ?_
      refine r_istore (lv' := [(8, .int 0), (1, .int x1), (4, .int x4), (5, .int x5), (6, .int x6), (7, .ref a_N0)]) C dX8_frosts_83 (by decide) rfl ?_
      exact ST_lv [1, 2, 3, 4, 0] rfl (hb_85 a_N0 5000 x1 x4 x5 x6 0 v_N0 hf)
    · refine r_iload C dX8_frosts_66 2 rfl ?_
      refine r_aload C dX8_frosts_68 4 rfl ?_
      refine r_iload C dX8_frosts_70 5 rfl ?_
      obtain ⟨hi5, hf⟩ := gd_some hf
      refine r_iald C 1 0 rfl rfl hi5 dX8_frosts_72 ?_
      refine r_iadd C dX8_frosts_73 ?_
      refine r_istore (lv' := [(5, .int (x5 + (v_N0 (Int32.toNatClampNeg x8)))), (1, .int x1), (4, .int x4), (6, .int x6), (7, .ref a_N0), (8, .int x8)]) C dX8_frosts_74 (by decide) rfl ?_
      refine r_iinc (v := 1) (k := 5) (lv' := [(8, .int (x8 + 1)), (5, .int (x5 + (v_N0 (Int32.toNatClampNeg x8)))), (1, .int x1), (4, .int x4), (6, .int x6), (7, .ref a_N0)]) C dX8_frosts_76 rfl (by decide) (by decide) rfl ?_
      refine r_goto C 60 dX8_frosts_79 (by decide) ?_
      exact ST_lv [2, 3, 1, 4, 5, 0] rfl (hk_60 x1 x4 (x5 + (v_N0 (Int32.toNatClampNeg x8))) x6 (x8 + 1) v_N0 hf)
  have hb_60 : ∀ (a_N0 : Nat), ∀ (n : Nat) (x1 : Int32) (x4 : Int32) (x5 : Int32) (x6 : Int32) (x8 : Int32) (v_N0 : Nat → Int32), f_X8_frosts_b60 n x1 x4 x5 x6 x8 v_N0 = some res → Z (w_X8_frosts cyI cyZ cyW a_this a_this_reader a_this_text a_this_told a_this_now a_this_past a_this_votes a_this_smallest a_this_rota a_N0 v_N0) 60 [(1, .int x1), (4, .int x4), (5, .int x5), (6, .int x6), (7, .ref a_N0), (8, .int x8)] [] := by
    intro a_N0 n
    induction n with
    | zero => intro x1 x4 x5 x6 x8 v_N0 hf; exact nn_ hf
    | succ n ih => exact fun x1 x4 x5 x6 x8 v_N0 hf => hs_60 a_N0 _ ih x1 x4 x5 x6 x8 v_N0 hf
  subst hZ
  refine r_iload_n C dX8_frosts_0 rfl 1 rfl ?_
  refine r_if_lt C 20 dX8_frosts_1 (by decide) hf (fun hf => ?_) (fun hf => ?_)
  · refine r_bipush C (-3) dX8_frosts_20 (by decide) ?_
    refine ST.wd (k := 1) (n := 7) (by decide) (by decide) ?_
    rw [← Option.some.inj hf]
    exact r_iret C hr hlk dX8_frosts_22
  · refine r_iload_n C dX8_frosts_4 rfl 1 rfl ?_
    refine r_bipush C 6 dX8_frosts_5 (by decide) ?_
    refine r_icmp_gt C 20 dX8_frosts_7 (by decide) hf (fun hf => ?_) (fun hf => ?_)
    · refine r_bipush C (-3) dX8_frosts_20 (by decide) ?_
      refine ST.wd (k := 1) (n := 7) (by decide) (by decide) ?_
      rw [← Option.some.inj hf]
      exact r_iret C hr hlk dX8_frosts_22
    · refine r_iload_n C dX8_frosts_10 rfl 2 rfl ?_
      refine r_if_lt C 20 dX8_frosts_11 (by decide) hf (fun hf => ?_) (fun hf => ?_)
      · refine r_bipush C (-3) dX8_frosts_20 (by decide) ?_
        refine ST.wd (k := 1) (n := 7) (by decide) (by decide) ?_
        rw [← Option.some.inj hf]
        exact r_iret C hr hlk dX8_frosts_22
      · refine r_iload_n C dX8_frosts_14 rfl 2 rfl ?_
        refine r_bipush C 6 dX8_frosts_15 (by decide) ?_
        refine r_icmp_le C 23 dX8_frosts_17 (by decide) hf (fun hf => ?_) (fun hf => ?_)
        · refine r_iload_n C dX8_frosts_23 rfl 3 rfl ?_
          refine r_if_lt C 41 dX8_frosts_24 (by decide) hf (fun hf => ?_) (fun hf => ?_)
          · refine r_bipush C (-3) dX8_frosts_41 (by decide) ?_
            refine ST.wd (k := 1) (n := 7) (by decide) (by decide) ?_
            rw [← Option.some.inj hf]
            exact r_iret C hr hlk dX8_frosts_43
          · refine r_iload_n C dX8_frosts_27 rfl 3 rfl ?_
            refine r_bipush C 10 dX8_frosts_28 (by decide) ?_
            refine r_icmp_gt C 41 dX8_frosts_30 (by decide) hf (fun hf => ?_) (fun hf => ?_)
            · refine r_bipush C (-3) dX8_frosts_41 (by decide) ?_
              refine ST.wd (k := 1) (n := 7) (by decide) (by decide) ?_
              rw [← Option.some.inj hf]
              exact r_iret C hr hlk dX8_frosts_43
            · refine r_iload C dX8_frosts_33 4 rfl ?_
              obtain ⟨y1, hy2, hf⟩ := bd_some hf
              refine r_roS_i (As := [.int x4]) (rest := []) C (c_X8_isYesOrNo l D cyI cyZ cyW x4 y1 hy2) gX8_frosts_X8_isYesOrNo rfl hyS_X8_isYesOrNo ⟨rfl, rfl, (Nat.le_of_ble_eq_true rfl), (Nat.le_of_ble_eq_true rfl)⟩ rfl [] rfl rfl rfl (Nat.le_of_ble_eq_true rfl) ⟨Nat.le_of_ble_eq_true rfl, Nat.le_of_ble_eq_true rfl⟩ dX8_frosts_35 ?_
              refine r_if_ne C 44 dX8_frosts_38 (by decide) hf (fun hf => ?_) (fun hf => ?_)
              · refine r_iconst C 0 dX8_frosts_44 (by decide) ?_
                refine r_istore (lv' := [(5, .int 0), (0, .ref a_this), (1, .int x1), (2, .int x2), (3, .int x3), (4, .int x4)]) C dX8_frosts_45 (by decide) rfl ?_
                refine r_iconst C 1 dX8_frosts_47 (by decide) ?_
                refine r_istore (lv' := [(6, .int 1), (5, .int 0), (0, .ref a_this), (1, .int x1), (2, .int x2), (3, .int x3), (4, .int x4)]) C dX8_frosts_48 (by decide) rfl ?_
                refine r_iload_n C dX8_frosts_50 rfl 3 rfl ?_
                refine r_iload_n C dX8_frosts_51 rfl 5 rfl ?_
                obtain ⟨y3, hy4, hf⟩ := bd_some hf
                refine r_callS_a (As := [.int x1, .int x3]) (rest := []) C (c_X8_waysOfFrosts l D cyI cyZ cyW x1 x3 y3 hy4) gX8_frosts_X8_waysOfFrosts rfl hyS_X8_waysOfFrosts ⟨rfl, rfl, (Nat.le_of_ble_eq_true rfl), (Nat.le_of_ble_eq_true rfl)⟩ rfl [0] rfl rfl rfl (Nat.le_of_ble_eq_true rfl) ⟨(Nat.le_of_ble_eq_true rfl), (Nat.le_of_ble_eq_true rfl)⟩ dX8_frosts_52 (fun a_N0 => ?_)
                refine ST.eq (ws' := (w_X8_frosts cyI cyZ cyW a_this a_this_reader a_this_text a_this_told a_this_now a_this_past a_this_votes a_this_smallest a_this_rota a_N0 y3)) rfl rfl rfl ?_
                refine r_astore (lv' := [(7, .ref a_N0), (6, .int 1), (5, .int 0), (0, .ref a_this), (1, .int x1), (2, .int x2), (3, .int x3), (4, .int x4)]) C dX8_frosts_55 (by decide) rfl ?_
                refine r_iload_n C dX8_frosts_57 rfl 5 rfl ?_
                refine r_istore (lv' := [(8, .int x2), (7, .ref a_N0), (6, .int 1), (5, .int 0), (0, .ref a_this), (1, .int x1), (2, .int x2), (3, .int x3), (4, .int x4)]) C dX8_frosts_58 (by decide) rfl ?_
                exact ST_lv [5, 8, 3, 2, 1, 0] rfl (hb_60 a_N0 5000 x1 x4 0 1 x2 y3 hf)
              · refine r_bipush C (-3) dX8_frosts_41 (by decide) ?_
                refine ST.wd (k := 1) (n := 7) (by decide) (by decide) ?_
                rw [← Option.some.inj hf]
                exact r_iret C hr hlk dX8_frosts_43
        · refine r_bipush C (-3) dX8_frosts_20 (by decide) ?_
          refine ST.wd (k := 1) (n := 7) (by decide) (by decide) ?_
          rw [← Option.some.inj hf]
          exact r_iret C hr hlk dX8_frosts_22
