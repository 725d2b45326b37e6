theorem lk_X7_begin_1 : Cond.fieldLink RX7 18 "ParishCoat$Winter" "date" "I" ∈ wsX7_begin := List.mem_of_getElem? (i := 1) rfl
theorem lk_X7_begin_2 : Cond.fieldLink RX7 22 "ParishCoat$Winter" "frozen" "I" ∈ wsX7_begin := List.mem_of_getElem? (i := 2) rfl
theorem lk_X7_begin_3 : Cond.fieldLink RX7 9 "ParishCoat$Winter" "healths" "[I" ∈ wsX7_begin := List.mem_of_getElem? (i := 3) rfl
theorem lk_X7_begin_4 : Cond.fieldLink RX7 25 "ParishCoat$Told" "families" "I" ∈ wsX7_begin := List.mem_of_getElem? (i := 4) rfl
theorem lk_X7_begin_5 : Cond.fieldLink RX7 15 "ParishCoat$Winter" "favourers" "[I" ∈ wsX7_begin := List.mem_of_getElem? (i := 5) rfl
theorem lk_X7_begin_6 : Cond.fieldLink RX7 30 "ParishCoat$Told" "favourers" "[I" ∈ wsX7_begin := List.mem_of_getElem? (i := 6) rfl
theorem in_X7_begin_X5 : ∀ w ∈ u_ws RX5 TX5 8, w ∈ wsX7_begin := fun _ h => List.mem_cons_of_mem _ (List.mem_append_right _ h)
theorem in_X7_begin_X7 : ∀ w ∈ u_ws RX7 TX7 4, w ∈ wsX7_begin := fun _ h => List.mem_cons_of_mem _ (List.mem_append_left _ (List.mem_append_right _ h))
def f_X7_begin_b61 (v_p0_families : Int32) (v_p0_favourers : Nat → Int32) (k_12 : Int32 → Int32 → Int32 → (Nat → Int32) → (Nat → Int32) → Option (Int32 × Int32 × (Nat → Int32) × (Nat → Int32))) (x2 : Int32) (s0 : Int32) (s1 : Int32) (v_this_date : Int32) (v_this_frozen : Int32) (v_this_healths : Nat → Int32) (v_this_favourers : Nat → Int32) : Option (Int32 × Int32 × (Nat → Int32) × (Nat → Int32)) := gd_ s1 7 (k_12 (x2 + 1) v_this_date v_this_frozen v_this_healths (upd v_this_favourers (Int32.toNatClampNeg s1) s0))
def f_X7_begin_b37 (v_p0_families : Int32) (v_p0_favourers : Nat → Int32) (k_12 : Int32 → Int32 → Int32 → (Nat → Int32) → (Nat → Int32) → Option (Int32 × Int32 × (Nat → Int32) × (Nat → Int32))) (x2 : Int32) (s0 : Int32) (s1 : Int32) (v_this_date : Int32) (v_this_frozen : Int32) (v_this_healths : Nat → Int32) (v_this_favourers : Nat → Int32) : Option (Int32 × Int32 × (Nat → Int32) × (Nat → Int32)) := gd_ s1 7 (if v_p0_families ≤ x2 then (f_X7_begin_b61 v_p0_families v_p0_favourers k_12 x2 0 x2 v_this_date v_this_frozen (upd v_this_healths (Int32.toNatClampNeg s1) s0) v_this_favourers) else (gd_ x2 7 (f_X7_begin_b61 v_p0_families v_p0_favourers k_12 x2 (v_p0_favourers (Int32.toNatClampNeg x2)) x2 v_this_date v_this_frozen (upd v_this_healths (Int32.toNatClampNeg s1) s0) v_this_favourers)))
def f_X7_begin_s12 (v_p0_families : Int32) (v_p0_favourers : Nat → Int32) (k_12 : Int32 → Int32 → Int32 → (Nat → Int32) → (Nat → Int32) → Option (Int32 × Int32 × (Nat → Int32) × (Nat → Int32))) (x2 : Int32) (v_this_date : Int32) (v_this_frozen : Int32) (v_this_healths : Nat → Int32) (v_this_favourers : Nat → Int32) : Option (Int32 × Int32 × (Nat → Int32) × (Nat → Int32)) := if 7 ≤ x2 then (some (v_this_date, v_this_frozen, v_this_healths, v_this_favourers)) else (if v_p0_families ≤ x2 then (f_X7_begin_b37 v_p0_families v_p0_favourers k_12 x2 0 x2 v_this_date v_this_frozen v_this_healths v_this_favourers) else (f_X7_begin_b37 v_p0_families v_p0_favourers k_12 x2 20 x2 v_this_date v_this_frozen v_this_healths v_this_favourers))
def f_X7_begin_b12 (v_p0_families : Int32) (v_p0_favourers : Nat → Int32) (n : Nat) : Int32 → Int32 → Int32 → (Nat → Int32) → (Nat → Int32) → Option (Int32 × Int32 × (Nat → Int32) × (Nat → Int32)) := it_ (f_X7_begin_s12 v_p0_families v_p0_favourers ) (fun _ _ _ _ _ => none) n
def f_X7_begin (v_this_date : Int32) (v_this_frozen : Int32) (v_p0_families : Int32) (v_this_healths : Nat → Int32) (v_p0_favourers : Nat → Int32) (v_this_favourers : Nat → Int32) : Option (Int32 × Int32 × (Nat → Int32) × (Nat → Int32)) := f_X7_begin_b12 v_p0_families v_p0_favourers 5000 0 0 0 v_this_healths v_this_favourers
def w_X7_begin (cyI cyZ cyW : ClassId) (a_this : Nat) (v_this_date : Int32) (v_this_frozen : Int32) (a_this_healths : Nat) (a_this_favourers : Nat) (a_p0 : Nat) (v_p0_families : Int32) (v_p0_quota : Int32) (v_p0_coldCount : Int32) (a_p0_kinds : Nat) (a_p0_warmths : Nat) (a_p0_prices : Nat) (a_p0_favourers : Nat) (a_p0_colds : Nat) (v_this_healths : Nat → Int32) (v_p0_favourers : Nat → Int32) (v_this_favourers : Nat → Int32) : va_W := [(a_this, .inr (7, [.int v_this_date, .int v_this_frozen, .ref a_this_healths, .ref a_this_favourers])), (a_p0, .inr (5, [.int v_p0_families, .int v_p0_quota, .int v_p0_coldCount, .ref a_p0_kinds, .ref a_p0_warmths, .ref a_p0_prices, .ref a_p0_favourers, .ref a_p0_colds])), (a_this_healths, .inl (cyI, 7, .inl v_this_healths)), (a_p0_favourers, .inl (cyI, 7, .inl v_p0_favourers)), (a_this_favourers, .inl (cyI, 7, .inl v_this_favourers))]
set_option maxHeartbeats 4000000 in
set_option maxRecDepth 100000 in
theorem c_X7_begin (l : Launch) (D : va_G) (cyI cyZ cyW : ClassId) (a_this : Nat) (v_this_date : Int32) (v_this_frozen : Int32) (a_this_healths : Nat) (a_this_favourers : Nat) (a_p0 : Nat) (v_p0_families : Int32) (v_p0_quota : Int32) (v_p0_coldCount : Int32) (a_p0_kinds : Nat) (a_p0_warmths : Nat) (a_p0_prices : Nat) (a_p0_favourers : Nat) (a_p0_colds : Nat) (v_this_healths : Nat → Int32) (v_p0_favourers : Nat → Int32) (v_this_favourers : Nat → Int32) (res : Int32 × Int32 × (Nat → Int32) × (Nat → Int32)) (hf : f_X7_begin v_this_date v_this_frozen v_p0_families v_this_healths v_p0_favourers v_this_favourers = some res) : ∀ sz, Met l yX7_begin wsX7_begin { frames := 0, cells := 0, slots := 0, locals := 0 } (PCx D (tyG cyI cyZ cyW) [.ref a_this, .ref a_p0] (w_X7_begin cyI cyZ cyW a_this v_this_date v_this_frozen a_this_healths a_this_favourers a_p0 v_p0_families v_p0_quota v_p0_coldCount a_p0_kinds a_p0_warmths a_p0_prices a_p0_favourers a_p0_colds v_this_healths v_p0_favourers v_this_favourers) sz) (QV D (tyG cyI cyZ cyW) (w_X7_begin cyI cyZ cyW a_this v_this_date v_this_frozen a_this_healths a_this_favourers a_p0 v_p0_families v_p0_quota v_p0_coldCount a_p0_kinds a_p0_warmths a_p0_prices a_p0_favourers a_p0_colds v_this_healths v_p0_favourers v_this_favourers) sz (w_X7_begin cyI cyZ cyW a_this res.1 res.2.1 a_this_healths a_this_favourers a_p0 v_p0_families v_p0_quota v_p0_coldCount a_p0_kinds a_p0_warmths a_p0_prices a_p0_favourers a_p0_colds res.2.2.1 v_p0_favourers res.2.2.2)) 0 0 (va_A (w_X7_begin cyI cyZ cyW a_this v_this_date v_this_frozen a_this_healths a_this_favourers a_p0 v_p0_families v_p0_quota v_p0_coldCount a_p0_kinds a_p0_warmths a_p0_prices a_p0_favourers a_p0_colds v_this_healths v_p0_favourers v_this_favourers) sz) := by
  intro sz
  refine met_of (cc := cX7_begin) (maxL := 3) (ret := none) (lv0 := [(0, .ref a_this), (1, .ref a_p0)]) (by decide) rfl ⟨(Nat.le_of_ble_eq_true rfl), rfl⟩ ?_
  intro p e s m below meth c C hr hlk hnm hsz
  subst hsz
  have C : CX p s m _ c 3 cX7_begin RX7 wsX7_begin D (tyG cyI cyZ cyW) _ := C
  obtain ⟨Z, hZ⟩ : ∃ Z : va_W → Nat → LV → List Value → Prop, Z = ST p l e { frames := 0, cells := 0, slots := 0, locals := 0 } s m [.ref a_this, .ref a_p0].toArray below meth c 3 D (va_A (w_X7_begin cyI cyZ cyW a_this v_this_date v_this_frozen a_this_healths a_this_favourers a_p0 v_p0_families v_p0_quota v_p0_coldCount a_p0_kinds a_p0_warmths a_p0_prices a_p0_favourers a_p0_colds v_this_healths v_p0_favourers v_this_favourers) s.heap.size) (MQ below (QV D (tyG cyI cyZ cyW) (w_X7_begin cyI cyZ cyW a_this v_this_date v_this_frozen a_this_healths a_this_favourers a_p0 v_p0_families v_p0_quota v_p0_coldCount a_p0_kinds a_p0_warmths a_p0_prices a_p0_favourers a_p0_colds v_this_healths v_p0_favourers v_this_favourers) s.heap.size (w_X7_begin cyI cyZ cyW a_this res.1 res.2.1 a_this_healths a_this_favourers a_p0 v_p0_families v_p0_quota v_p0_coldCount a_p0_kinds a_p0_warmths a_p0_prices a_p0_favourers a_p0_colds res.2.2.1 v_p0_favourers res.2.2.2)) [.ref a_this, .ref a_p0].toArray s 0 0 (va_A (w_X7_begin cyI cyZ cyW a_this v_this_date v_this_frozen a_this_healths a_this_favourers a_p0 v_p0_families v_p0_quota v_p0_coldCount a_p0_kinds a_p0_warmths a_p0_prices a_p0_favourers a_p0_colds v_this_healths v_p0_favourers v_this_favourers) s.heap.size)) 0 0 := ⟨_, rfl⟩
  have hb_61 : ∀ (k_12 : Int32 → Int32 → Int32 → (Nat → Int32) → (Nat → Int32) → Option (Int32 × Int32 × (Nat → Int32) × (Nat → Int32))), (∀ (x2 : Int32) (v_this_date : Int32) (v_this_frozen : Int32) (v_this_healths : Nat → Int32) (v_this_favourers : Nat → Int32), k_12 x2 v_this_date v_this_frozen v_this_healths v_this_favourers = some res → Z (w_X7_begin cyI cyZ cyW a_this v_this_date v_this_frozen a_this_healths a_this_favourers a_p0 v_p0_families v_p0_quota v_p0_coldCount a_p0_kinds a_p0_warmths a_p0_prices a_p0_favourers a_p0_colds v_this_healths v_p0_favourers v_this_favourers) 12 [(0, .ref a_this), (1, .ref a_p0), (2, .int x2)] []) → ∀ (x2 : Int32) (s0 : Int32) (s1 : Int32) (v_this_date : Int32) (v_this_frozen : Int32) (v_this_healths : Nat → Int32) (v_this_favourers : Nat → Int32), f_X7_begin_b61 v_p0_families v_p0_favourers k_12 x2 s0 s1 v_this_date v_this_frozen v_this_healths v_this_favourers = some res → Z (w_X7_begin cyI cyZ cyW a_this v_this_date v_this_frozen a_this_healths a_this_favourers a_p0 v_p0_families v_p0_quota v_p0_coldCount a_p0_kinds a_p0_warmths a_p0_prices a_p0_favourers a_p0_colds v_this_healths v_p0_favourers v_this_favourers) 61 [(0, .ref a_this), (1, .ref a_p0), (2, .int x2)] [.int s0, .int s1, .ref a_this_favourers] := by
    subst hZ
    intro k_12 hk_12 x2 s0 s1 v_this_date v_this_frozen v_this_healths v_this_favourers hf
    obtain ⟨hi3, hf⟩ := gd_some hf
    refine r_iast (ws' := (w_X7_begin cyI cyZ cyW a_this v_this_date v_this_frozen a_this_healths a_this_favourers a_p0 v_p0_families v_p0_quota v_p0_coldCount a_p0_kinds a_p0_warmths a_p0_prices a_p0_favourers a_p0_colds v_this_healths v_p0_favourers (upd v_this_favourers (Int32.toNatClampNeg s1) s0))) C 4 0 rfl rfl hi3 rfl dX7_begin_61 ?_
    refine r_iinc (v := 1) (k := 2) (lv' := [(2, .int (x2 + 1)), (0, .ref a_this), (1, .ref a_p0)]) C dX7_begin_62 rfl (by decide) (by decide) rfl ?_
    refine r_goto C 12 dX7_begin_65 (by decide) ?_
    exact ST_lv [1, 2, 0] rfl (hk_12 (x2 + 1) v_this_date v_this_frozen v_this_healths (upd v_this_favourers (Int32.toNatClampNeg s1) s0) hf)
  have hb_37 : ∀ (k_12 : Int32 → Int32 → Int32 → (Nat → Int32) → (Nat → Int32) → Option (Int32 × Int32 × (Nat → Int32) × (Nat → Int32))), (∀ (x2 : Int32) (v_this_date : Int32) (v_this_frozen : Int32) (v_this_healths : Nat → Int32) (v_this_favourers : Nat → Int32), k_12 x2 v_this_date v_this_frozen v_this_healths v_this_favourers = some res → Z (w_X7_begin cyI cyZ cyW a_this v_this_date v_this_frozen a_this_healths a_this_favourers a_p0 v_p0_families v_p0_quota v_p0_coldCount a_p0_kinds a_p0_warmths a_p0_prices a_p0_favourers a_p0_colds v_this_healths v_p0_favourers v_this_favourers) 12 [(0, .ref a_this), (1, .ref a_p0), (2, .int x2)] []) → ∀ (x2 : Int32) (s0 : Int32) (s1 : Int32) (v_this_date : Int32) (v_this_frozen : Int32) (v_this_healths : Nat → Int32) (v_this_favourers : Nat → Int32), f_X7_begin_b37 v_p0_families v_p0_favourers k_12 x2 s0 s1 v_this_date v_this_frozen v_this_healths v_this_favourers = some res → Z (w_X7_begin cyI cyZ cyW a_this v_this_date v_this_frozen a_this_healths a_this_favourers a_p0 v_p0_families v_p0_quota v_p0_coldCount a_p0_kinds a_p0_warmths a_p0_prices a_p0_favourers a_p0_colds v_this_healths v_p0_favourers v_this_favourers) 37 [(0, .ref a_this), (1, .ref a_p0), (2, .int x2)] [.int s0, .int s1, .ref a_this_healths] := by
    subst hZ
    intro k_12 hk_12 x2 s0 s1 v_this_date v_this_frozen v_this_healths v_this_favourers hf
    obtain ⟨hi1, hf⟩ := gd_some hf
    refine r_iast (ws' := (w_X7_begin cyI cyZ cyW a_this v_this_date v_this_frozen a_this_healths a_this_favourers a_p0 v_p0_families v_p0_quota v_p0_coldCount a_p0_kinds a_p0_warmths a_p0_prices a_p0_favourers a_p0_colds (upd v_this_healths (Int32.toNatClampNeg s1) s0) v_p0_favourers v_this_favourers)) C 2 0 rfl rfl hi1 rfl dX7_begin_37 ?_
    refine r_aload_n C dX7_begin_38 rfl 0 rfl ?_
    refine r_get C in_X7_begin_X7 0 rfl rfl 3 (by decide) lk_X7_begin_5 rfl rfl dX7_begin_39 ?_
    refine r_iload_n C dX7_begin_42 rfl 2 rfl ?_
    refine r_iload_n C dX7_begin_43 rfl 2 rfl ?_
    refine r_aload_n C dX7_begin_44 rfl 1 rfl ?_
    refine r_get C in_X7_begin_X5 1 rfl rfl 0 (by decide) lk_X7_begin_4 rfl rfl dX7_begin_45 ?_
    refine r_icmp_ge C 60 dX7_begin_48 (by decide) hf (fun hf => ?_) (fun hf => ?_)
    · refine r_iconst C 0 dX7_begin_60 (by decide) ?_
      exact ST_lv [0, 1, 2] rfl (hb_61 k_12 hk_12 x2 0 x2 v_this_date v_this_frozen (upd v_this_healths (Int32.toNatClampNeg s1) s0) v_this_favourers hf)
    · refine r_aload_n C dX7_begin_51 rfl 1 rfl ?_
      refine r_get C in_X7_begin_X5 1 rfl rfl 6 (by decide) lk_X7_begin_6 rfl rfl dX7_begin_52 ?_
      refine r_iload_n C dX7_begin_55 rfl 2 rfl ?_
      obtain ⟨hi2, hf⟩ := gd_some hf
      refine r_iald C 3 0 rfl rfl hi2 dX7_begin_56 ?_
      refine r_goto C 61 dX7_begin_57 (by decide) ?_
      exact ST_lv [0, 1, 2] rfl (hb_61 k_12 hk_12 x2 (v_p0_favourers (Int32.toNatClampNeg x2)) x2 v_this_date v_this_frozen (upd v_this_healths (Int32.toNatClampNeg s1) s0) v_this_favourers hf)
  have hs_12 : ∀ (k_12 : Int32 → Int32 → Int32 → (Nat → Int32) → (Nat → Int32) → Option (Int32 × Int32 × (Nat → Int32) × (Nat → Int32))), (∀ (x2 : Int32) (v_this_date : Int32) (v_this_frozen : Int32) (v_this_healths : Nat → Int32) (v_this_favourers : Nat → Int32), k_12 x2 v_this_date v_this_frozen v_this_healths v_this_favourers = some res → Z (w_X7_begin cyI cyZ cyW a_this v_this_date v_this_frozen a_this_healths a_this_favourers a_p0 v_p0_families v_p0_quota v_p0_coldCount a_p0_kinds a_p0_warmths a_p0_prices a_p0_favourers a_p0_colds v_this_healths v_p0_favourers v_this_favourers) 12 [(0, .ref a_this), (1, .ref a_p0), (2, .int x2)] []) → ∀ (x2 : Int32) (v_this_date : Int32) (v_this_frozen : Int32) (v_this_healths : Nat → Int32) (v_this_favourers : Nat → Int32), f_X7_begin_s12 v_p0_families v_p0_favourers k_12 x2 v_this_date v_this_frozen v_this_healths v_this_favourers = some res → Z (w_X7_begin cyI cyZ cyW a_this v_this_date v_this_frozen a_this_healths a_this_favourers a_p0 v_p0_families v_p0_quota v_p0_coldCount a_p0_kinds a_p0_warmths a_p0_prices a_p0_favourers a_p0_colds v_this_healths v_p0_favourers v_this_favourers) 12 [(0, .ref a_this), (1, .ref a_p0), (2, .int x2)] [] := by
    subst hZ
    intro k_12 hk_12 x2 v_this_date v_this_frozen v_this_healths v_this_favourers hf
    refine r_iload_n C dX7_begin_12 rfl 2 rfl ?_
    refine r_bipush C 7 dX7_begin_13 (by decide) ?_
    refine r_icmp_ge C 68 dX7_begin_15 (by decide) hf (fun hf => ?_) (fun hf => ?_)
    · rw [← Option.some.inj hf]
      exact r_vret C hr hlk dX7_begin_68
    · refine r_aload_n C dX7_begin_18 rfl 0 rfl ?_
      refine r_get C in_X7_begin_X7 0 rfl rfl 2 (by decide) lk_X7_begin_3 rfl rfl dX7_begin_19 ?_
      refine r_iload_n C dX7_begin_22 rfl 2 rfl ?_
      refine r_iload_n C dX7_begin_23 rfl 2 rfl ?_
      refine r_aload_n C dX7_begin_24 rfl 1 rfl ?_
      refine r_get C in_X7_begin_X5 1 rfl rfl 0 (by decide) lk_X7_begin_4 rfl rfl dX7_begin_25 ?_
      refine r_icmp_ge C 36 dX7_begin_28 (by decide) hf (fun hf => ?_) (fun hf => ?_)
      · refine r_iconst C 0 dX7_begin_36 (by decide) ?_
        exact ST_lv [0, 1, 2] rfl (hb_37 k_12 hk_12 x2 0 x2 v_this_date v_this_frozen v_this_healths v_this_favourers hf)
      · refine r_bipush C 20 dX7_begin_31 (by decide) ?_
        refine r_goto C 37 dX7_begin_33 (by decide) ?_
        exact ST_lv [0, 1, 2] rfl (hb_37 k_12 hk_12 x2 20 x2 v_this_date v_this_frozen v_this_healths v_this_favourers hf)
  have hb_12 : ∀ (n : Nat) (x2 : Int32) (v_this_date : Int32) (v_this_frozen : Int32) (v_this_healths : Nat → Int32) (v_this_favourers : Nat → Int32), f_X7_begin_b12 v_p0_families v_p0_favourers n x2 v_this_date v_this_frozen v_this_healths v_this_favourers = some res → Z (w_X7_begin cyI cyZ cyW a_this v_this_date v_this_frozen a_this_healths a_this_favourers a_p0 v_p0_families v_p0_quota v_p0_coldCount a_p0_kinds a_p0_warmths a_p0_prices a_p0_favourers a_p0_colds v_this_healths v_p0_favourers v_this_favourers) 12 [(0, .ref a_this), (1, .ref a_p0), (2, .int x2)] [] := by
    intro  n
    induction n with
    | zero => intro x2 v_this_date v_this_frozen v_this_healths v_this_favourers hf; exact nn_ hf
    | succ n ih => exact fun x2 v_this_date v_this_frozen v_this_healths v_this_favourers hf => hs_12 _ ih x2 v_this_date v_this_frozen v_this_healths v_this_favourers hf
  subst hZ
  refine r_aload_n C dX7_begin_0 rfl 0 rfl ?_
  refine r_iconst C 0 dX7_begin_1 (by decide) ?_
  refine r_put (ws' := (w_X7_begin cyI cyZ cyW a_this 0 v_this_frozen a_this_healths a_this_favourers a_p0 v_p0_families v_p0_quota v_p0_coldCount a_p0_kinds a_p0_warmths a_p0_prices a_p0_favourers a_p0_colds v_this_healths v_p0_favourers v_this_favourers)) C in_X7_begin_X7 tyX7 tyX7_ok nmX7 0 rfl rfl 0 (by decide) lk_X7_begin_1 rfl rfl rfl rfl (Nat.le_of_ble_eq_true rfl) rfl dX7_begin_2 ?_
  refine r_aload_n C dX7_begin_5 rfl 0 rfl ?_
  refine r_iconst C 0 dX7_begin_6 (by decide) ?_
  refine r_put (ws' := (w_X7_begin cyI cyZ cyW a_this 0 0 a_this_healths a_this_favourers a_p0 v_p0_families v_p0_quota v_p0_coldCount a_p0_kinds a_p0_warmths a_p0_prices a_p0_favourers a_p0_colds v_this_healths v_p0_favourers v_this_favourers)) C in_X7_begin_X7 tyX7 tyX7_ok nmX7 0 rfl rfl 1 (by decide) lk_X7_begin_2 rfl rfl rfl rfl (Nat.le_of_ble_eq_true rfl) rfl dX7_begin_7 ?_
  refine r_iconst C 0 dX7_begin_10 (by decide) ?_
  refine r_istore_n (lv' := [(2, .int 0), (0, .ref a_this), (1, .ref a_p0)]) C dX7_begin_11 rfl (by decide) rfl ?_
  exact ST_lv [1, 2, 0] rfl (hb_12 5000 0 0 0 v_this_healths v_this_favourers hf)

theorem lk_X7_copyFrom_1 : Cond.fieldLink RX7 18 "ParishCoat$Winter" "date" "I" ∈ wsX7_copyFrom := List.mem_of_getElem? (i := 1) rfl
theorem lk_X7_copyFrom_2 : Cond.fieldLink RX7 22 "ParishCoat$Winter" "frozen" "I" ∈ wsX7_copyFrom := List.mem_of_getElem? (i := 2) rfl
theorem lk_X7_copyFrom_3 : Cond.fieldLink RX7 9 "ParishCoat$Winter" "healths" "[I" ∈ wsX7_copyFrom := List.mem_of_getElem? (i := 3) rfl
theorem lk_X7_copyFrom_4 : Cond.methodLink RX7 31 arraycopyName ∈ wsX7_copyFrom := List.mem_of_getElem? (i := 4) rfl
theorem lk_X7_copyFrom_5 : Cond.native arraycopyName ∈ wsX7_copyFrom := List.mem_of_getElem? (i := 5) rfl
theorem lk_X7_copyFrom_6 : Cond.static arraycopyName ∈ wsX7_copyFrom := List.mem_of_getElem? (i := 6) rfl
theorem lk_X7_copyFrom_7 : Cond.initialized "java/lang/System" ∈ wsX7_copyFrom := List.mem_of_getElem? (i := 7) rfl
theorem lk_X7_copyFrom_8 : Cond.fieldLink RX7 15 "ParishCoat$Winter" "favourers" "[I" ∈ wsX7_copyFrom := List.mem_of_getElem? (i := 8) rfl
theorem in_X7_copyFrom_X7 : ∀ w ∈ u_ws RX7 TX7 4, w ∈ wsX7_copyFrom := fun _ h => List.mem_cons_of_mem _ (List.mem_append_right _ h)
def f_X7_copyFrom (v_this_date : Int32) (v_this_frozen : Int32) (v_p0_date : Int32) (v_p0_frozen : Int32) (v_p0_healths : Nat → Int32) (v_this_healths : Nat → Int32) (v_p0_favourers : Nat → Int32) (v_this_favourers : Nat → Int32) : Option (Int32 × Int32 × (Nat → Int32) × (Nat → Int32)) := some (v_p0_date, v_p0_frozen, (va_cpy v_p0_healths v_this_healths 0 0 7), (va_cpy v_p0_favourers v_this_favourers 0 0 7))
def w_X7_copyFrom (cyI cyZ cyW : ClassId) (a_this : Nat) (v_this_date : Int32) (v_this_frozen : Int32) (a_this_healths : Nat) (a_this_favourers : Nat) (a_p0 : Nat) (v_p0_date : Int32) (v_p0_frozen : Int32) (a_p0_healths : Nat) (a_p0_favourers : Nat) (v_p0_healths : Nat → Int32) (v_this_healths : Nat → Int32) (v_p0_favourers : Nat → Int32) (v_this_favourers : Nat → Int32) : va_W := [(a_this, .inr (7, [.int v_this_date, .int v_this_frozen, .ref a_this_healths, .ref a_this_favourers])), (a_p0, .inr (7, [.int v_p0_date, .int v_p0_frozen, .ref a_p0_healths, .ref a_p0_favourers])), (a_p0_healths, .inl (cyI, 7, .inl v_p0_healths)), (a_this_healths, .inl (cyI, 7, .inl v_this_healths)), (a_p0_favourers, .inl (cyI, 7, .inl v_p0_favourers)), (a_this_favourers, .inl (cyI, 7, .inl v_this_favourers))]
set_option maxHeartbeats 4000000 in
set_option maxRecDepth 100000 in
theorem c_X7_copyFrom (l : Launch) (D : va_G) (cyI cyZ cyW : ClassId) (a_this : Nat) (v_this_date : Int32) (v_this_frozen : Int32) (a_this_healths : Nat) (a_this_favourers : Nat) (a_p0 : Nat) (v_p0_date : Int32) (v_p0_frozen : Int32) (a_p0_healths : Nat) (a_p0_favourers : Nat) (v_p0_healths : Nat → Int32) (v_this_healths : Nat → Int32) (v_p0_favourers : Nat → Int32) (v_this_favourers : Nat → Int32) (res : Int32 × Int32 × (Nat → Int32) × (Nat → Int32)) (hf : f_X7_copyFrom v_this_date v_this_frozen v_p0_date v_p0_frozen v_p0_healths v_this_healths v_p0_favourers v_this_favourers = some res) : ∀ sz, Met l yX7_copyFrom wsX7_copyFrom { frames := 1, cells := 0, slots := 0, locals := 60 } (PCx D (tyG cyI cyZ cyW) [.ref a_this, .ref a_p0] (w_X7_copyFrom cyI cyZ cyW a_this v_this_date v_this_frozen a_this_healths a_this_favourers a_p0 v_p0_date v_p0_frozen a_p0_healths a_p0_favourers v_p0_healths v_this_healths v_p0_favourers v_this_favourers) sz) (QV D (tyG cyI cyZ cyW) (w_X7_copyFrom cyI cyZ cyW a_this v_this_date v_this_frozen a_this_healths a_this_favourers a_p0 v_p0_date v_p0_frozen a_p0_healths a_p0_favourers v_p0_healths v_this_healths v_p0_favourers v_this_favourers) sz (w_X7_copyFrom cyI cyZ cyW a_this res.1 res.2.1 a_this_healths a_this_favourers a_p0 v_p0_date v_p0_frozen a_p0_healths a_p0_favourers v_p0_healths res.2.2.1 v_p0_favourers res.2.2.2)) 0 0 (va_A (w_X7_copyFrom cyI cyZ cyW a_this v_this_date v_this_frozen a_this_healths a_this_favourers a_p0 v_p0_date v_p0_frozen a_p0_healths a_p0_favourers v_p0_healths v_this_healths v_p0_favourers v_this_favourers) sz) := by
  intro sz
  refine met_of (cc := cX7_copyFrom) (maxL := 2) (ret := none) (lv0 := [(0, .ref a_this), (1, .ref a_p0)]) (by decide) rfl ⟨(Nat.le_of_ble_eq_true rfl), rfl⟩ ?_
  intro p e s m below meth c C hr hlk hnm hsz
  subst hsz
  have C : CX p s m _ c 2 cX7_copyFrom RX7 wsX7_copyFrom D (tyG cyI cyZ cyW) _ := C
  refine r_aload_n C dX7_copyFrom_0 rfl 0 rfl ?_
  refine r_aload_n C dX7_copyFrom_1 rfl 1 rfl ?_
  refine r_get C in_X7_copyFrom_X7 1 rfl rfl 0 (by decide) lk_X7_copyFrom_1 rfl rfl dX7_copyFrom_2 ?_
  refine r_put (ws' := (w_X7_copyFrom cyI cyZ cyW a_this v_p0_date v_this_frozen a_this_healths a_this_favourers a_p0 v_p0_date v_p0_frozen a_p0_healths a_p0_favourers v_p0_healths v_this_healths v_p0_favourers v_this_favourers)) C in_X7_copyFrom_X7 tyX7 tyX7_ok nmX7 0 rfl rfl 0 (by decide) lk_X7_copyFrom_1 rfl rfl rfl rfl (Nat.le_of_ble_eq_true rfl) rfl dX7_copyFrom_5 ?_
  refine r_aload_n C dX7_copyFrom_8 rfl 0 rfl ?_
  refine r_aload_n C dX7_copyFrom_9 rfl 1 rfl ?_
  refine r_get C in_X7_copyFrom_X7 1 rfl rfl 1 (by decide) lk_X7_copyFrom_2 rfl rfl dX7_copyFrom_10 ?_
  refine r_put (ws' := (w_X7_copyFrom cyI cyZ cyW a_this v_p0_date v_p0_frozen a_this_healths a_this_favourers a_p0 v_p0_date v_p0_frozen a_p0_healths a_p0_favourers v_p0_healths v_this_healths v_p0_favourers v_this_favourers)) C in_X7_copyFrom_X7 tyX7 tyX7_ok nmX7 0 rfl rfl 1 (by decide) lk_X7_copyFrom_2 rfl rfl rfl rfl (Nat.le_of_ble_eq_true rfl) rfl dX7_copyFrom_13 ?_
  refine r_aload_n C dX7_copyFrom_16 rfl 1 rfl ?_
  refine r_get C in_X7_copyFrom_X7 1 rfl rfl 2 (by decide) lk_X7_copyFrom_3 rfl rfl dX7_copyFrom_17 ?_
  refine r_iconst C 0 dX7_copyFrom_20 (by decide) ?_
  refine r_aload_n C dX7_copyFrom_21 rfl 0 rfl ?_
  refine r_get C in_X7_copyFrom_X7 0 rfl rfl 2 (by decide) lk_X7_copyFrom_3 rfl rfl dX7_copyFrom_22 ?_
  refine r_iconst C 0 dX7_copyFrom_25 (by decide) ?_
  refine r_bipush C 7 dX7_copyFrom_26 (by decide) ?_
  refine r_copyi (ws' := (w_X7_copyFrom cyI cyZ cyW a_this v_p0_date v_p0_frozen a_this_healths a_this_favourers a_p0 v_p0_date v_p0_frozen a_p0_healths a_p0_favourers v_p0_healths (va_cpy v_p0_healths v_this_healths 0 0 7) v_p0_favourers v_this_favourers)) C lk_X7_copyFrom_4 lk_X7_copyFrom_5 lk_X7_copyFrom_6 lk_X7_copyFrom_7 2 3 0 rfl rfl rfl rfl (by decide) (by decide) (by decide) 7 ⟨by decide, by decide, by decide⟩ (by decide) (by decide) (Nat.le_of_ble_eq_true rfl) (by decide) rfl dX7_copyFrom_28 ?_
  refine r_aload_n C dX7_copyFrom_31 rfl 1 rfl ?_
  refine r_get C in_X7_copyFrom_X7 1 rfl rfl 3 (by decide) lk_X7_copyFrom_8 rfl rfl dX7_copyFrom_32 ?_
  refine r_iconst C 0 dX7_copyFrom_35 (by decide) ?_
  refine r_aload_n C dX7_copyFrom_36 rfl 0 rfl ?_
  refine r_get C in_X7_copyFrom_X7 0 rfl rfl 3 (by decide) lk_X7_copyFrom_8 rfl rfl dX7_copyFrom_37 ?_
  refine r_iconst C 0 dX7_copyFrom_40 (by decide) ?_
  refine r_bipush C 7 dX7_copyFrom_41 (by decide) ?_
  refine r_copyi (ws' := (w_X7_copyFrom cyI cyZ cyW a_this v_p0_date v_p0_frozen a_this_healths a_this_favourers a_p0 v_p0_date v_p0_frozen a_p0_healths a_p0_favourers v_p0_healths (va_cpy v_p0_healths v_this_healths 0 0 7) v_p0_favourers (va_cpy v_p0_favourers v_this_favourers 0 0 7))) C lk_X7_copyFrom_4 lk_X7_copyFrom_5 lk_X7_copyFrom_6 lk_X7_copyFrom_7 4 5 0 rfl rfl rfl rfl (by decide) (by decide) (by decide) 7 ⟨by decide, by decide, by decide⟩ (by decide) (by decide) (Nat.le_of_ble_eq_true rfl) (by decide) rfl dX7_copyFrom_43 ?_
  rw [← Option.some.inj hf]
  exact r_vret C hr hlk dX7_copyFrom_46

theorem lk_X7_isNight_1 : Cond.fieldLink RX7 18 "ParishCoat$Winter" "date" "I" ∈ wsX7_isNight := List.mem_of_getElem? (i := 1) rfl
theorem in_X7_isNight_X7 : ∀ w ∈ u_ws RX7 TX7 4, w ∈ wsX7_isNight := fun _ h => List.mem_cons_of_mem _ (List.mem_append_right _ h)
def f_X7_isNight (v_this_date : Int32) : Option (Int32) := if (v_this_date &&& 1) = 1 then (some (1)) else (some (0))
def w_X7_isNight (cyI cyZ cyW : ClassId) (a_this : Nat) (v_this_date : Int32) (v_this_frozen : Int32) (a_this_healths : Nat) (a_this_favourers : Nat) : va_W := [(a_this, .inr (7, [.int v_this_date, .int v_this_frozen, .ref a_this_healths, .ref a_this_favourers]))]
set_option maxHeartbeats 4000000 in
set_option maxRecDepth 100000 in
theorem c_X7_isNight (l : Launch) (D : va_G) (cyI cyZ cyW : ClassId) (a_this : Nat) (v_this_date : Int32) (v_this_frozen : Int32) (a_this_healths : Nat) (a_this_favourers : Nat) (res : Int32) (hf : f_X7_isNight v_this_date = some res) : ∀ sz, Met l yX7_isNight wsX7_isNight { frames := 0, cells := 0, slots := 0, locals := 0 } (PCx D (tyG cyI cyZ cyW) [.ref a_this] (w_X7_isNight cyI cyZ cyW a_this v_this_date v_this_frozen a_this_healths a_this_favourers) sz) (QI D (tyG cyI cyZ cyW) (w_X7_isNight cyI cyZ cyW a_this v_this_date v_this_frozen a_this_healths a_this_favourers) sz res (w_X7_isNight cyI cyZ cyW a_this v_this_date v_this_frozen a_this_healths a_this_favourers)) 0 0 (va_A (w_X7_isNight cyI cyZ cyW a_this v_this_date v_this_frozen a_this_healths a_this_favourers) sz) := by
  intro sz
  refine met_of (cc := cX7_isNight) (maxL := 1) (ret := (some .boolean)) (lv0 := [(0, .ref a_this)]) (by decide) rfl ⟨(Nat.le_of_ble_eq_true rfl), rfl⟩ ?_
  intro p e s m below meth c C hr hlk hnm hsz
  subst hsz
  have C : CX p s m _ c 1 cX7_isNight RX7 wsX7_isNight D (tyG cyI cyZ cyW) _ := C
  refine r_aload_n C dX7_isNight_0 rfl 0 rfl ?_
  refine r_get C in_X7_isNight_X7 0 rfl rfl 0 (by decide) lk_X7_isNight_1 rfl rfl dX7_isNight_1 ?_
  refine r_iconst C 1 dX7_isNight_4 (by decide) ?_
  refine r_iand C dX7_isNight_5 ?_
  refine r_iconst C 1 dX7_isNight_6 (by decide) ?_
  refine r_icmp_ne C 14 dX7_isNight_7 (by decide) hf (fun hf => ?_) (fun hf => ?_)
  · refine r_iconst C 0 dX7_isNight_14 (by decide) ?_
    rw [← Option.some.inj hf]
    exact r_zret (r := 0) C hr hlk rfl dX7_isNight_15
  · refine r_iconst C 1 dX7_isNight_10 (by decide) ?_
    refine r_goto C 15 dX7_isNight_11 (by decide) ?_
    rw [← Option.some.inj hf]
    exact r_zret (r := 1) C hr hlk rfl dX7_isNight_15

theorem lk_X7_isFrozen_1 : Cond.fieldLink RX7 22 "ParishCoat$Winter" "frozen" "I" ∈ wsX7_isFrozen := List.mem_of_getElem? (i := 1) rfl
theorem lk_X7_isFrozen_2 : Cond.static yX8_holds ∈ wsX7_isFrozen := List.mem_of_getElem? (i := 2) rfl
theorem lk_X7_isFrozen_3 : Cond.initialized RX8 ∈ wsX7_isFrozen := List.mem_of_getElem? (i := 3) rfl
theorem in_X7_isFrozen_X7 : ∀ w ∈ u_ws RX7 TX7 4, w ∈ wsX7_isFrozen := fun _ h => List.mem_cons_of_mem _ (List.mem_append_right _ h)
def f_X7_isFrozen (v_this_frozen : Int32) (x1 : Int32) : Option (Int32) := (f_X8_holds v_this_frozen x1).bind fun y1 => bz_ y1 (some (y1))
def w_X7_isFrozen (cyI cyZ cyW : ClassId) (a_this : Nat) (v_this_date : Int32) (v_this_frozen : Int32) (a_this_healths : Nat) (a_this_favourers : Nat) : va_W := [(a_this, .inr (7, [.int v_this_date, .int v_this_frozen, .ref a_this_healths, .ref a_this_favourers]))]
set_option maxHeartbeats 4000000 in
set_option maxRecDepth 100000 in
theorem c_X7_isFrozen (l : Launch) (D : va_G) (cyI cyZ cyW : ClassId) (a_this : Nat) (v_this_date : Int32) (v_this_frozen : Int32) (a_this_healths : Nat) (a_this_favourers : Nat) (x1 : Int32) (res : Int32) (hf : f_X7_isFrozen v_this_frozen x1 = some res) : ∀ sz, Met l yX7_isFrozen wsX7_isFrozen { frames := 1, cells := 0, slots := 0, locals := 21 } (PCx D (tyG cyI cyZ cyW) [.ref a_this, .int x1] (w_X7_isFrozen cyI cyZ cyW a_this v_this_date v_this_frozen a_this_healths a_this_favourers) sz) (QI D (tyG cyI cyZ cyW) (w_X7_isFrozen cyI cyZ cyW a_this v_this_date v_this_frozen a_this_healths a_this_favourers) sz res (w_X7_isFrozen cyI cyZ cyW a_this v_this_date v_this_frozen a_this_healths a_this_favourers)) 0 0 (va_A (w_X7_isFrozen cyI cyZ cyW a_this v_this_date v_this_frozen a_this_healths a_this_favourers) sz) := by
  intro sz
  refine met_of (cc := cX7_isFrozen) (maxL := 2) (ret := (some .boolean)) (lv0 := [(0, .ref a_this), (1, .int x1)]) (by decide) rfl ⟨(Nat.le_of_ble_eq_true rfl), rfl⟩ ?_
  intro p e s m below meth c C hr hlk hnm hsz
  subst hsz
  have C : CX p s m _ c 2 cX7_isFrozen RX7 wsX7_isFrozen D (tyG cyI cyZ cyW) _ := C
  refine r_aload_n C dX7_isFrozen_0 rfl 0 rfl ?_
  refine r_get C in_X7_isFrozen_X7 0 rfl rfl 1 (by decide) lk_X7_isFrozen_1 rfl rfl dX7_isFrozen_1 ?_
  refine r_iload_n C dX7_isFrozen_4 rfl 1 rfl ?_
  obtain ⟨y1, hy2, hf⟩ := bd_some hf
  refine r_roSN_i (As := [.int v_this_frozen, .int x1]) (rest := []) C (c_X8_holds l D cyI cyZ cyW v_this_frozen x1 y1 hy2) gX7_isFrozen_X8_holds_n37 10 rfl lk_X7_isFrozen_3 lk_X7_isFrozen_2 rfl hyS_X8_holds ⟨rfl, rfl, (Nat.le_of_ble_eq_true rfl), (Nat.le_of_ble_eq_true rfl)⟩ rfl [] rfl rfl rfl (Nat.le_of_ble_eq_true rfl) ⟨Nat.zero_le _, Nat.zero_le _⟩ dX7_isFrozen_5 ?_
  obtain ⟨hz3, hf⟩ := bz_some hf
  rw [← Option.some.inj hf]
  exact r_zret (r := y1) C hr hlk hz3 dX7_isFrozen_8

theorem lk_X7_favouredOf_1 : Cond.fieldLink RX7 15 "ParishCoat$Winter" "favourers" "[I" ∈ wsX7_favouredOf := List.mem_of_getElem? (i := 1) rfl
theorem lk_X7_favouredOf_2 : Cond.static yX8_holds ∈ wsX7_favouredOf := List.mem_of_getElem? (i := 2) rfl
theorem lk_X7_favouredOf_3 : Cond.initialized RX8 ∈ wsX7_favouredOf := List.mem_of_getElem? (i := 3) rfl
theorem lk_X7_favouredOf_5 : Cond.static yX8_with ∈ wsX7_favouredOf := List.mem_of_getElem? (i := 5) rfl
theorem in_X7_favouredOf_X7 : ∀ w ∈ u_ws RX7 TX7 4, w ∈ wsX7_favouredOf := fun _ h => List.mem_cons_of_mem _ (List.mem_append_right _ h)
theorem hyV_X8_with : yX8_with.cls = RX8 ∧ yX8_with.cls ≠ "java/lang/invoke/MethodHandle" ∧ yX8_with.cls ≠ "java/lang/invoke/VarHandle" ∧ (parseMethodDescriptor yX8_with.desc).map (fun d => d.parameters.length) = some 3 := by decide +kernel
theorem hyS_X8_with : yX8_with.cls ≠ "java/lang/invoke/MethodHandle" ∧ yX8_with.cls ≠ "java/lang/invoke/VarHandle" ∧ (parseMethodDescriptor yX8_with.desc).map (fun d => d.parameters.length) = some 3 := by decide +kernel
def f_X7_favouredOf_s4 (v_this_favourers : Nat → Int32) (k_4 : Int32 → Int32 → Int32 → Option (Int32)) (x1 : Int32) (x2 : Int32) (x3 : Int32) : Option (Int32) := if 7 ≤ x3 then (some (x2)) else (gd_ x3 7 ((f_X8_holds (v_this_favourers (Int32.toNatClampNeg x3)) x1).bind fun y2 => (f_X8_with x2 x3 y2).bind fun y4 => k_4 x1 y4 (x3 + 1)))
def f_X7_favouredOf_b4 (v_this_favourers : Nat → Int32) (n : Nat) : Int32 → Int32 → Int32 → Option (Int32) := it_ (f_X7_favouredOf_s4 v_this_favourers ) (fun _ _ _ => none) n
def f_X7_favouredOf (v_this_favourers : Nat → Int32) (x1 : Int32) : Option (Int32) := f_X7_favouredOf_b4 v_this_favourers 5000 x1 0 0
def w_X7_favouredOf (cyI cyZ cyW : ClassId) (a_this : Nat) (v_this_date : Int32) (v_this_frozen : Int32) (a_this_healths : Nat) (a_this_favourers : Nat) (v_this_favourers : Nat → Int32) : va_W := [(a_this, .inr (7, [.int v_this_date, .int v_this_frozen, .ref a_this_healths, .ref a_this_favourers])), (a_this_favourers, .inl (cyI, 7, .inl v_this_favourers))]
set_option maxHeartbeats 4000000 in
set_option maxRecDepth 100000 in
theorem c_X7_favouredOf (l : Launch) (D : va_G) (cyI cyZ cyW : ClassId) (a_this : Nat) (v_this_date : Int32) (v_this_frozen : Int32) (a_this_healths : Nat) (a_this_favourers : Nat) (v_this_favourers : Nat → Int32) (x1 : Int32) (res : Int32) (hf : f_X7_favouredOf v_this_favourers x1 = some res) : ∀ sz, Met l yX7_favouredOf wsX7_favouredOf { frames := 2, cells := 0, slots := 0, locals := 42 } (PCx D (tyG cyI cyZ cyW) [.ref a_this, .int x1] (w_X7_favouredOf cyI cyZ cyW a_this v_this_date v_this_frozen a_this_healths a_this_favourers v_this_favourers) sz) (QI D (tyG cyI cyZ cyW) (w_X7_favouredOf cyI cyZ cyW a_this v_this_date v_this_frozen a_this_healths a_this_favourers v_this_favourers) sz res (w_X7_favouredOf cyI cyZ cyW a_this v_this_date v_this_frozen a_this_healths a_this_favourers v_this_favourers)) 0 0 (va_A (w_X7_favouredOf cyI cyZ cyW a_this v_this_date v_this_frozen a_this_healths a_this_favourers v_this_favourers) sz) := by
  intro sz
  refine met_of (cc := cX7_favouredOf) (maxL := 4) (ret := (some .int)) (lv0 := [(0, .ref a_this), (1, .int x1)]) (by decide) rfl ⟨(Nat.le_of_ble_eq_true rfl), rfl⟩ ?_
  intro p e s m below meth c C hr hlk hnm hsz
  subst hsz
  have C : CX p s m _ c 4 cX7_favouredOf RX7 wsX7_favouredOf D (tyG cyI cyZ cyW) _ := C
  obtain ⟨Z, hZ⟩ : ∃ Z : va_W → Nat → LV → List Value → Prop, Z = ST p l e { frames := 2, cells := 0, slots := 0, locals := 42 } s m [.ref a_this, .int x1].toArray below meth c 4 D (va_A (w_X7_favouredOf cyI cyZ cyW a_this v_this_date v_this_frozen a_this_healths a_this_favourers v_this_favourers) s.heap.size) (MQ below (QI D (tyG cyI cyZ cyW) (w_X7_favouredOf cyI cyZ cyW a_this v_this_date v_this_frozen a_this_healths a_this_favourers v_this_favourers) s.heap.size res (w_X7_favouredOf cyI cyZ cyW a_this v_this_date v_this_frozen a_this_healths a_this_favourers v_this_favourers)) [.ref a_this, .int x1].toArray s 0 0 (va_A (w_X7_favouredOf cyI cyZ cyW a_this v_this_date v_this_frozen a_this_healths a_this_favourers v_this_favourers) s.heap.size)) 0 0 := ⟨_, rfl⟩
  have hs_4 : ∀ (k_4 : Int32 → Int32 → Int32 → Option (Int32)), (∀ (x1 : Int32) (x2 : Int32) (x3 : Int32), k_4 x1 x2 x3 = some res → Z (w_X7_favouredOf cyI cyZ cyW a_this v_this_date v_this_frozen a_this_healths a_this_favourers v_this_favourers) 4 [(0, .ref a_this), (1, .int x1), (2, .int x2), (3, .int x3)] []) → ∀ (x1 : Int32) (x2 : Int32) (x3 : Int32), f_X7_favouredOf_s4 v_this_favourers k_4 x1 x2 x3 = some res → Z (w_X7_favouredOf cyI cyZ cyW a_this v_this_date v_this_frozen a_this_healths a_this_favourers v_this_favourers) 4 [(0, .ref a_this), (1, .int x1), (2, .int x2), (3, .int x3)] [] := by
    subst hZ
    intro k_4 hk_4 x1 x2 x3 hf
    refine r_iload_n C dX7_favouredOf_4 rfl 3 rfl ?_
    refine r_bipush C 7 dX7_favouredOf_5 (by decide) ?_
    refine r_icmp_ge C 32 dX7_favouredOf_7 (by decide) hf (fun hf => ?_) (fun hf => ?_)
    · refine r_iload_n C dX7_favouredOf_32 rfl 2 rfl ?_
      rw [← Option.some.inj hf]
      exact r_iret C hr hlk dX7_favouredOf_33
    · refine r_iload_n C dX7_favouredOf_10 rfl 2 rfl ?_
      refine r_iload_n C dX7_favouredOf_11 rfl 3 rfl ?_
      refine r_aload_n C dX7_favouredOf_12 rfl 0 rfl ?_
      refine r_get C in_X7_favouredOf_X7 0 rfl rfl 3 (by decide) lk_X7_favouredOf_1 rfl rfl dX7_favouredOf_13 ?_
      refine r_iload_n C dX7_favouredOf_16 rfl 3 rfl ?_
      obtain ⟨hi1, hf⟩ := gd_some hf
      refine r_iald C 1 0 rfl rfl hi1 dX7_favouredOf_17 ?_
      refine r_iload_n C dX7_favouredOf_18 rfl 1 rfl ?_
      obtain ⟨y2, hy3, hf⟩ := bd_some hf
      refine r_roSN_i (As := [.int (v_this_favourers (Int32.toNatClampNeg x3)), .int x1]) (rest := [.int x3, .int x2]) C (c_X8_holds l D cyI cyZ cyW (v_this_favourers (Int32.toNatClampNeg x3)) x1 y2 hy3) gX7_favouredOf_X8_holds_n37 10 rfl lk_X7_favouredOf_3 lk_X7_favouredOf_2 rfl hyS_X8_holds ⟨rfl, rfl, (Nat.le_of_ble_eq_true rfl), (Nat.le_of_ble_eq_true rfl)⟩ rfl [] rfl rfl rfl (Nat.le_of_ble_eq_true rfl) ⟨Nat.zero_le _, Nat.zero_le _⟩ dX7_favouredOf_19 ?_
      obtain ⟨y4, hy5, hf⟩ := bd_some hf
      refine r_roSN_i (As := [.int x2, .int x3, .int y2]) (rest := []) C (c_X8_with l D cyI cyZ cyW x2 x3 y2 y4 hy5) gX7_favouredOf_X8_with_n41 11 rfl lk_X7_favouredOf_3 lk_X7_favouredOf_5 rfl hyS_X8_with ⟨rfl, rfl, (Nat.le_of_ble_eq_true rfl), (Nat.le_of_ble_eq_true rfl)⟩ rfl [] rfl rfl rfl (Nat.le_of_ble_eq_true rfl) ⟨Nat.zero_le _, Nat.zero_le _⟩ dX7_favouredOf_22 ?_
      refine r_istore_n (lv' := [(2, .int y4), (0, .ref a_this), (1, .int x1), (3, .int x3)]) C dX7_favouredOf_25 rfl (by decide) rfl ?_
      refine r_iinc (v := 1) (k := 3) (lv' := [(3, .int (x3 + 1)), (2, .int y4), (0, .ref a_this), (1, .int x1)]) C dX7_favouredOf_26 rfl (by decide) (by decide) rfl ?_
      refine r_goto C 4 dX7_favouredOf_29 (by decide) ?_
      exact ST_lv [2, 3, 1, 0] rfl (hk_4 x1 y4 (x3 + 1) hf)
  have hb_4 : ∀ (n : Nat) (x1 : Int32) (x2 : Int32) (x3 : Int32), f_X7_favouredOf_b4 v_this_favourers n x1 x2 x3 = some res → Z (w_X7_favouredOf cyI cyZ cyW a_this v_this_date v_this_frozen a_this_healths a_this_favourers v_this_favourers) 4 [(0, .ref a_this), (1, .int x1), (2, .int x2), (3, .int x3)] [] := by
    intro  n
    induction n with
    | zero => intro x1 x2 x3 hf; exact nn_ hf
    | succ n ih => exact fun x1 x2 x3 hf => hs_4 _ ih x1 x2 x3 hf
  subst hZ
  refine r_iconst C 0 dX7_favouredOf_0 (by decide) ?_
  refine r_istore_n (lv' := [(2, .int 0), (0, .ref a_this), (1, .int x1)]) C dX7_favouredOf_1 rfl (by decide) rfl ?_
  refine r_iconst C 0 dX7_favouredOf_2 (by decide) ?_
  refine r_istore_n (lv' := [(3, .int 0), (2, .int 0), (0, .ref a_this), (1, .int x1)]) C dX7_favouredOf_3 rfl (by decide) rfl ?_
  exact ST_lv [2, 3, 1, 0] rfl (hb_4 5000 x1 0 0 hf)

theorem lk_X7_doneUpFor_1 : Cond.fieldLink RX7 15 "ParishCoat$Winter" "favourers" "[I" ∈ wsX7_doneUpFor := List.mem_of_getElem? (i := 1) rfl
theorem lk_X7_doneUpFor_11 : Cond.static yX8_bit ∈ wsX7_doneUpFor := List.mem_of_getElem? (i := 11) rfl
theorem lk_X7_doneUpFor_2 : Cond.fieldLink RX7 22 "ParishCoat$Winter" "frozen" "I" ∈ wsX7_doneUpFor := List.mem_of_getElem? (i := 2) rfl
theorem lk_X7_doneUpFor_9 : Cond.initialized RX8 ∈ wsX7_doneUpFor := List.mem_of_getElem? (i := 9) rfl
theorem in_X7_doneUpFor_X7 : ∀ w ∈ u_ws RX7 TX7 4, w ∈ wsX7_doneUpFor := fun _ h => List.mem_cons_of_mem _ (List.mem_append_right _ h)
theorem hyV_X7_isFrozen : yX7_isFrozen.cls = RX7 ∧ yX7_isFrozen.cls ≠ "java/lang/invoke/MethodHandle" ∧ yX7_isFrozen.cls ≠ "java/lang/invoke/VarHandle" ∧ (parseMethodDescriptor yX7_isFrozen.desc).map (fun d => d.parameters.length) = some 1 := by decide +kernel
theorem hyS_X7_isFrozen : yX7_isFrozen.cls ≠ "java/lang/invoke/MethodHandle" ∧ yX7_isFrozen.cls ≠ "java/lang/invoke/VarHandle" ∧ (parseMethodDescriptor yX7_isFrozen.desc).map (fun d => d.parameters.length) = some 1 := by decide +kernel
def f_X7_doneUpFor (v_this_frozen : Int32) (v_this_favourers : Nat → Int32) (x1 : Int32) : Option (Int32) := if x1 = (-1) then (some (0)) else ((f_X7_isFrozen v_this_frozen x1).bind fun y1 => if y1 = 0 then (gd_ x1 7 ((f_X8_bit x1).bind fun y4 => some ((((v_this_favourers (Int32.toNatClampNeg x1)) ||| y4) &&& (v_this_frozen ^^^ (-1)))))) else (some (0)))
def w_X7_doneUpFor (cyI cyZ cyW : ClassId) (a_this : Nat) (v_this_date : Int32) (v_this_frozen : Int32) (a_this_healths : Nat) (a_this_favourers : Nat) (v_this_favourers : Nat → Int32) : va_W := [(a_this, .inr (7, [.int v_this_date, .int v_this_frozen, .ref a_this_healths, .ref a_this_favourers])), (a_this_favourers, .inl (cyI, 7, .inl v_this_favourers))]
set_option maxHeartbeats 4000000 in
set_option maxRecDepth 100000 in
theorem c_X7_doneUpFor (l : Launch) (D : va_G) (cyI cyZ cyW : ClassId) (a_this : Nat) (v_this_date : Int32) (v_this_frozen : Int32) (a_this_healths : Nat) (a_this_favourers : Nat) (v_this_favourers : Nat → Int32) (x1 : Int32) (res : Int32) (hf : f_X7_doneUpFor v_this_frozen v_this_favourers x1 = some res) : ∀ sz, Met l yX7_doneUpFor wsX7_doneUpFor { frames := 2, cells := 0, slots := 0, locals := 42 } (PCx D (tyG cyI cyZ cyW) [.ref a_this, .int x1] (w_X7_doneUpFor cyI cyZ cyW a_this v_this_date v_this_frozen a_this_healths a_this_favourers v_this_favourers) sz) (QI D (tyG cyI cyZ cyW) (w_X7_doneUpFor cyI cyZ cyW a_this v_this_date v_this_frozen a_this_healths a_this_favourers v_this_favourers) sz res (w_X7_doneUpFor cyI cyZ cyW a_this v_this_date v_this_frozen a_this_healths a_this_favourers v_this_favourers)) 0 0 (va_A (w_X7_doneUpFor cyI cyZ cyW a_this v_this_date v_this_frozen a_this_healths a_this_favourers v_this_favourers) sz) := by
  intro sz
  refine met_of (cc := cX7_doneUpFor) (maxL := 2) (ret := (some .int)) (lv0 := [(0, .ref a_this), (1, .int x1)]) (by decide) rfl ⟨(Nat.le_of_ble_eq_true rfl), rfl⟩ ?_
  intro p e s m below meth c C hr hlk hnm hsz
  subst hsz
  have C : CX p s m _ c 2 cX7_doneUpFor RX7 wsX7_doneUpFor D (tyG cyI cyZ cyW) _ := C
  refine r_iload_n C dX7_doneUpFor_0 rfl 1 rfl ?_
  refine r_iconst C (-1) dX7_doneUpFor_1 (by decide) ?_
  refine r_icmp_eq C 13 dX7_doneUpFor_2 (by decide) hf (fun hf => ?_) (fun hf => ?_)
  · refine r_iconst C 0 dX7_doneUpFor_13 (by decide) ?_
    rw [← Option.some.inj hf]
    exact r_iret C hr hlk dX7_doneUpFor_14
  · refine r_aload_n C dX7_doneUpFor_5 rfl 0 rfl ?_
    refine r_iload_n C dX7_doneUpFor_6 rfl 1 rfl ?_
    obtain ⟨y1, hy2, hf⟩ := bd_some hf
    refine r_roV_i (As := [.int x1]) (rest := []) C (c_X7_isFrozen l D cyI cyZ cyW a_this v_this_date v_this_frozen a_this_healths a_this_favourers x1 y1 hy2) gX7_doneUpFor_X7_isFrozen rfl hyV_X7_isFrozen ⟨rfl, rfl, (Nat.le_of_ble_eq_true rfl), (Nat.le_of_ble_eq_true rfl)⟩ rfl 0 rfl rfl [0] rfl rfl rfl (Nat.le_of_ble_eq_true rfl) ⟨Nat.zero_le _, Nat.zero_le _⟩ dX7_doneUpFor_7 ?_
    refine r_if_eq C 15 dX7_doneUpFor_10 (by decide) hf (fun hf => ?_) (fun hf => ?_)
    · refine r_aload_n C dX7_doneUpFor_15 rfl 0 rfl ?_
      refine r_get C in_X7_doneUpFor_X7 0 rfl rfl 3 (by decide) lk_X7_doneUpFor_1 rfl rfl dX7_doneUpFor_16 ?_
      refine r_iload_n C dX7_doneUpFor_19 rfl 1 rfl ?_
      obtain ⟨hi3, hf⟩ := gd_some hf
      refine r_iald C 1 0 rfl rfl hi3 dX7_doneUpFor_20 ?_
      refine r_iload_n C dX7_doneUpFor_21 rfl 1 rfl ?_
      obtain ⟨y4, hy5, hf⟩ := bd_some hf
      refine r_roSN_i (As := [.int x1]) (rest := [.int (v_this_favourers (Int32.toNatClampNeg x1))]) C (c_X8_bit l D cyI cyZ cyW x1 y4 hy5) gX7_doneUpFor_X8_bit_n49 12 rfl lk_X7_doneUpFor_9 lk_X7_doneUpFor_11 rfl hyS_X8_bit ⟨rfl, rfl, (Nat.le_of_ble_eq_true rfl), (Nat.le_of_ble_eq_true rfl)⟩ rfl [] rfl rfl rfl (Nat.le_of_ble_eq_true rfl) ⟨Nat.zero_le _, Nat.zero_le _⟩ dX7_doneUpFor_22 ?_
      refine r_ior C dX7_doneUpFor_25 ?_
      refine r_aload_n C dX7_doneUpFor_26 rfl 0 rfl ?_
      refine r_get C in_X7_doneUpFor_X7 0 rfl rfl 1 (by decide) lk_X7_doneUpFor_2 rfl rfl dX7_doneUpFor_27 ?_
      refine r_iconst C (-1) dX7_doneUpFor_30 (by decide) ?_
      refine r_ixor C dX7_doneUpFor_31 ?_
      refine r_iand C dX7_doneUpFor_32 ?_
      rw [← Option.some.inj hf]
      exact r_iret C hr hlk dX7_doneUpFor_33
    · refine r_iconst C 0 dX7_doneUpFor_13 (by decide) ?_
      rw [← Option.some.inj hf]
      exact r_iret C hr hlk dX7_doneUpFor_14

theorem hyV_X7_doneUpFor : yX7_doneUpFor.cls = RX7 ∧ yX7_doneUpFor.cls ≠ "java/lang/invoke/MethodHandle" ∧ yX7_doneUpFor.cls ≠ "java/lang/invoke/VarHandle" ∧ (parseMethodDescriptor yX7_doneUpFor.desc).map (fun d => d.parameters.length) = some 1 := by decide +kernel
theorem hyS_X7_doneUpFor : yX7_doneUpFor.cls ≠ "java/lang/invoke/MethodHandle" ∧ yX7_doneUpFor.cls ≠ "java/lang/invoke/VarHandle" ∧ (parseMethodDescriptor yX7_doneUpFor.desc).map (fun d => d.parameters.length) = some 1 := by decide +kernel
theorem hyV_X7_isNight : yX7_isNight.cls = RX7 ∧ yX7_isNight.cls ≠ "java/lang/invoke/MethodHandle" ∧ yX7_isNight.cls ≠ "java/lang/invoke/VarHandle" ∧ (parseMethodDescriptor yX7_isNight.desc).map (fun d => d.parameters.length) = some 0 := by decide +kernel
theorem hyS_X7_isNight : yX7_isNight.cls ≠ "java/lang/invoke/MethodHandle" ∧ yX7_isNight.cls ≠ "java/lang/invoke/VarHandle" ∧ (parseMethodDescriptor yX7_isNight.desc).map (fun d => d.parameters.length) = some 0 := by decide +kernel
theorem hyV_X5_isCarriedBy : yX5_isCarriedBy.cls = RX5 ∧ yX5_isCarriedBy.cls ≠ "java/lang/invoke/MethodHandle" ∧ yX5_isCarriedBy.cls ≠ "java/lang/invoke/VarHandle" ∧ (parseMethodDescriptor yX5_isCarriedBy.desc).map (fun d => d.parameters.length) = some 2 := by decide +kernel
theorem hyS_X5_isCarriedBy : yX5_isCarriedBy.cls ≠ "java/lang/invoke/MethodHandle" ∧ yX5_isCarriedBy.cls ≠ "java/lang/invoke/VarHandle" ∧ (parseMethodDescriptor yX5_isCarriedBy.desc).map (fun d => d.parameters.length) = some 2 := by decide +kernel
def f_X7_isCarriedFor (v_this_date : Int32) (v_this_frozen : Int32) (v_p0_families : Int32) (v_p0_quota : Int32) (v_this_favourers : Nat → Int32) (v_p0_kinds : Nat → Int32) (x2 : Int32) : Option (Int32) := (f_X7_doneUpFor v_this_frozen v_this_favourers x2).bind fun y1 => (f_X7_isNight v_this_date).bind fun y3 => (f_X5_isCarriedBy v_p0_families v_p0_quota v_p0_kinds y1 y3).bind fun y5 => bz_ y5 (some (y5))
def w_X7_isCarriedFor (cyI cyZ cyW : ClassId) (a_this : Nat) (v_this_date : Int32) (v_this_frozen : Int32) (a_this_healths : Nat) (a_this_favourers : Nat) (a_p0 : Nat) (v_p0_families : Int32) (v_p0_quota : Int32) (v_p0_coldCount : Int32) (a_p0_kinds : Nat) (a_p0_warmths : Nat) (a_p0_prices : Nat) (a_p0_favourers : Nat) (a_p0_colds : Nat) (v_this_favourers : Nat → Int32) (v_p0_kinds : Nat → Int32) : va_W := [(a_this, .inr (7, [.int v_this_date, .int v_this_frozen, .ref a_this_healths, .ref a_this_favourers])), (a_p0, .inr (5, [.int v_p0_families, .int v_p0_quota, .int v_p0_coldCount, .ref a_p0_kinds, .ref a_p0_warmths, .ref a_p0_prices, .ref a_p0_favourers, .ref a_p0_colds])), (a_this_favourers, .inl (cyI, 7, .inl v_this_favourers)), (a_p0_kinds, .inl (cyI, 7, .inl v_p0_kinds))]
set_option maxHeartbeats 4000000 in
set_option maxRecDepth 100000 in
theorem c_X7_isCarriedFor (l : Launch) (D : va_G) (cyI cyZ cyW : ClassId) (a_this : Nat) (v_this_date : Int32) (v_this_frozen : Int32) (a_this_healths : Nat) (a_this_favourers : Nat) (a_p0 : Nat) (v_p0_families : Int32) (v_p0_quota : Int32) (v_p0_coldCount : Int32) (a_p0_kinds : Nat) (a_p0_warmths : Nat) (a_p0_prices : Nat) (a_p0_favourers : Nat) (a_p0_colds : Nat) (v_this_favourers : Nat → Int32) (v_p0_kinds : Nat → Int32) (x2 : Int32) (res : Int32) (hf : f_X7_isCarriedFor v_this_date v_this_frozen v_p0_families v_p0_quota v_this_favourers v_p0_kinds x2 = some res) : ∀ sz, Met l yX7_isCarriedFor wsX7_isCarriedFor { frames := 3, cells := 0, slots := 0, locals := 68 } (PCx D (tyG cyI cyZ cyW) [.ref a_this, .ref a_p0, .int x2] (w_X7_isCarriedFor cyI cyZ cyW a_this v_this_date v_this_frozen a_this_healths a_this_favourers a_p0 v_p0_families v_p0_quota v_p0_coldCount a_p0_kinds a_p0_warmths a_p0_prices a_p0_favourers a_p0_colds v_this_favourers v_p0_kinds) sz) (QI D (tyG cyI cyZ cyW) (w_X7_isCarriedFor cyI cyZ cyW a_this v_this_date v_this_frozen a_this_healths a_this_favourers a_p0 v_p0_families v_p0_quota v_p0_coldCount a_p0_kinds a_p0_warmths a_p0_prices a_p0_favourers a_p0_colds v_this_favourers v_p0_kinds) sz res (w_X7_isCarriedFor cyI cyZ cyW a_this v_this_date v_this_frozen a_this_healths a_this_favourers a_p0 v_p0_families v_p0_quota v_p0_coldCount a_p0_kinds a_p0_warmths a_p0_prices a_p0_favourers a_p0_colds v_this_favourers v_p0_kinds)) 0 0 (va_A (w_X7_isCarriedFor cyI cyZ cyW a_this v_this_date v_this_frozen a_this_healths a_this_favourers a_p0 v_p0_families v_p0_quota v_p0_coldCount a_p0_kinds a_p0_warmths a_p0_prices a_p0_favourers a_p0_colds v_this_favourers v_p0_kinds) sz) := by
  intro sz
  refine met_of (cc := cX7_isCarriedFor) (maxL := 3) (ret := (some .boolean)) (lv0 := [(0, .ref a_this), (1, .ref a_p0), (2, .int x2)]) (by decide) rfl ⟨(Nat.le_of_ble_eq_true rfl), rfl⟩ ?_
  intro p e s m below meth c C hr hlk hnm hsz
  subst hsz
  have C : CX p s m _ c 3 cX7_isCarriedFor RX7 wsX7_isCarriedFor D (tyG cyI cyZ cyW) _ := C
  refine r_aload_n C dX7_isCarriedFor_0 rfl 1 rfl ?_
  refine r_aload_n C dX7_isCarriedFor_1 rfl 0 rfl ?_
  refine r_iload_n C dX7_isCarriedFor_2 rfl 2 rfl ?_
  obtain ⟨y1, hy2, hf⟩ := bd_some hf
  refine r_roV_i (As := [.int x2]) (rest := [.ref a_p0]) C (c_X7_doneUpFor l D cyI cyZ cyW a_this v_this_date v_this_frozen a_this_healths a_this_favourers v_this_favourers x2 y1 hy2) gX7_isCarriedFor_X7_doneUpFor rfl hyV_X7_doneUpFor ⟨rfl, rfl, (Nat.le_of_ble_eq_true rfl), (Nat.le_of_ble_eq_true rfl)⟩ rfl 0 rfl rfl [0, 2] rfl rfl rfl (Nat.le_of_ble_eq_true rfl) ⟨Nat.zero_le _, Nat.zero_le _⟩ dX7_isCarriedFor_3 ?_
  refine r_aload_n C dX7_isCarriedFor_6 rfl 0 rfl ?_
  obtain ⟨y3, hy4, hf⟩ := bd_some hf
  refine r_roV_i (As := []) (rest := [.int y1, .ref a_p0]) C (c_X7_isNight l D cyI cyZ cyW a_this v_this_date v_this_frozen a_this_healths a_this_favourers y3 hy4) gX7_isCarriedFor_X7_isNight rfl hyV_X7_isNight ⟨rfl, rfl, (Nat.le_of_ble_eq_true rfl), (Nat.le_of_ble_eq_true rfl)⟩ rfl 0 rfl rfl [0] rfl rfl rfl (Nat.le_of_ble_eq_true rfl) ⟨Nat.zero_le _, Nat.zero_le _⟩ dX7_isCarriedFor_7 ?_
  obtain ⟨y5, hy6, hf⟩ := bd_some hf
  refine r_roV_i (As := [.int y1, .int y3]) (rest := []) C (c_X5_isCarriedBy l D cyI cyZ cyW a_p0 v_p0_families v_p0_quota v_p0_coldCount a_p0_kinds a_p0_warmths a_p0_prices a_p0_favourers a_p0_colds v_p0_kinds y1 y3 y5 hy6) gX7_isCarriedFor_X5_isCarriedBy rfl hyV_X5_isCarriedBy ⟨rfl, rfl, (Nat.le_of_ble_eq_true rfl), (Nat.le_of_ble_eq_true rfl)⟩ rfl 1 rfl rfl [1, 3] rfl rfl rfl (Nat.le_of_ble_eq_true rfl) ⟨Nat.zero_le _, Nat.zero_le _⟩ dX7_isCarriedFor_10 ?_
  obtain ⟨hz7, hf⟩ := bz_some hf
  rw [← Option.some.inj hf]
  exact r_zret (r := y5) C hr hlk hz7 dX7_isCarriedFor_13

theorem lk_X7_changeHealth_1 : Cond.fieldLink RX7 9 "ParishCoat$Winter" "healths" "[I" ∈ wsX7_changeHealth := List.mem_of_getElem? (i := 1) rfl
theorem lk_X7_changeHealth_10 : Cond.static yX8_with ∈ wsX7_changeHealth := List.mem_of_getElem? (i := 10) rfl
theorem lk_X7_changeHealth_11 : Cond.initialized RX8 ∈ wsX7_changeHealth := List.mem_of_getElem? (i := 11) rfl
theorem lk_X7_changeHealth_2 : Cond.methodLink RX7 74 Lib.Math.min.name ∈ wsX7_changeHealth := List.mem_of_getElem? (i := 2) rfl
theorem lk_X7_changeHealth_3 : Cond.static Lib.Math.min.name ∈ wsX7_changeHealth := List.mem_of_getElem? (i := 3) rfl
theorem lk_X7_changeHealth_4 : Cond.initialized "java/lang/Math" ∈ wsX7_changeHealth := List.mem_of_getElem? (i := 4) rfl
theorem lk_X7_changeHealth_5 : Cond.code Lib.Math.min.name Lib.Math.min.code 2 (some .int) ∈ wsX7_changeHealth := List.mem_of_getElem? (i := 5) rfl
theorem lk_X7_changeHealth_6 : Cond.methodLink RX7 80 Lib.Math.max.name ∈ wsX7_changeHealth := List.mem_of_getElem? (i := 6) rfl
theorem lk_X7_changeHealth_7 : Cond.static Lib.Math.max.name ∈ wsX7_changeHealth := List.mem_of_getElem? (i := 7) rfl
theorem lk_X7_changeHealth_8 : Cond.code Lib.Math.max.name Lib.Math.max.code 2 (some .int) ∈ wsX7_changeHealth := List.mem_of_getElem? (i := 8) rfl
theorem lk_X7_changeHealth_9 : Cond.fieldLink RX7 22 "ParishCoat$Winter" "frozen" "I" ∈ wsX7_changeHealth := List.mem_of_getElem? (i := 9) rfl
theorem in_X7_changeHealth_X7 : ∀ w ∈ u_ws RX7 TX7 4, w ∈ wsX7_changeHealth := fun _ h => List.mem_cons_of_mem _ (List.mem_append_right _ h)
def f_X7_changeHealth_b40 (s0 : Int32) (s1 : Int32) (s2 : Int32) (v_this_frozen : Int32) (v_this_healths : Nat → Int32) : Option (Int32 × (Nat → Int32)) := (f_X8_with s2 s1 s0).bind fun y3 => some (y3, v_this_healths)
def f_X7_changeHealth (v_this_frozen : Int32) (v_this_healths : Nat → Int32) (x1 : Int32) (x2 : Int32) : Option (Int32 × (Nat → Int32)) := gd_ x1 7 (gd_ x1 7 (if 0 < (if 20 < ((v_this_healths (Int32.toNatClampNeg x1)) + x2) then 20 else ((v_this_healths (Int32.toNatClampNeg x1)) + x2)) then (f_X7_changeHealth_b40 0 x1 v_this_frozen v_this_frozen (upd v_this_healths (Int32.toNatClampNeg x1) (if (if 20 < ((v_this_healths (Int32.toNatClampNeg x1)) + x2) then 20 else ((v_this_healths (Int32.toNatClampNeg x1)) + x2)) < 0 then 0 else (if 20 < ((v_this_healths (Int32.toNatClampNeg x1)) + x2) then 20 else ((v_this_healths (Int32.toNatClampNeg x1)) + x2))))) else (f_X7_changeHealth_b40 1 x1 v_this_frozen v_this_frozen (upd v_this_healths (Int32.toNatClampNeg x1) (if (if 20 < ((v_this_healths (Int32.toNatClampNeg x1)) + x2) then 20 else ((v_this_healths (Int32.toNatClampNeg x1)) + x2)) < 0 then 0 else (if 20 < ((v_this_healths (Int32.toNatClampNeg x1)) + x2) then 20 else ((v_this_healths (Int32.toNatClampNeg x1)) + x2)))))))
def w_X7_changeHealth (cyI cyZ cyW : ClassId) (a_this : Nat) (v_this_date : Int32) (v_this_frozen : Int32) (a_this_healths : Nat) (a_this_favourers : Nat) (v_this_healths : Nat → Int32) : va_W := [(a_this, .inr (7, [.int v_this_date, .int v_this_frozen, .ref a_this_healths, .ref a_this_favourers])), (a_this_healths, .inl (cyI, 7, .inl v_this_healths))]
set_option maxHeartbeats 4000000 in
set_option maxRecDepth 100000 in
theorem c_X7_changeHealth (l : Launch) (D : va_G) (cyI cyZ cyW : ClassId) (a_this : Nat) (v_this_date : Int32) (v_this_frozen : Int32) (a_this_healths : Nat) (a_this_favourers : Nat) (v_this_healths : Nat → Int32) (x1 : Int32) (x2 : Int32) (res : Int32 × (Nat → Int32)) (hf : f_X7_changeHealth v_this_frozen v_this_healths x1 x2 = some res) : ∀ sz, Met l yX7_changeHealth wsX7_changeHealth { frames := 2, cells := 0, slots := 0, locals := 42 } (PCx D (tyG cyI cyZ cyW) [.ref a_this, .int x1, .int x2] (w_X7_changeHealth cyI cyZ cyW a_this v_this_date v_this_frozen a_this_healths a_this_favourers v_this_healths) sz) (QV D (tyG cyI cyZ cyW) (w_X7_changeHealth cyI cyZ cyW a_this v_this_date v_this_frozen a_this_healths a_this_favourers v_this_healths) sz (w_X7_changeHealth cyI cyZ cyW a_this v_this_date res.1 a_this_healths a_this_favourers res.2)) 0 0 (va_A (w_X7_changeHealth cyI cyZ cyW a_this v_this_date v_this_frozen a_this_healths a_this_favourers v_this_healths) sz) := by
  intro sz
  refine met_of (cc := cX7_changeHealth) (maxL := 4) (ret := none) (lv0 := [(0, .ref a_this), (1, .int x1), (2, .int x2)]) (by decide) rfl ⟨(Nat.le_of_ble_eq_true rfl), rfl⟩ ?_
  intro p e s m below meth c C hr hlk hnm hsz
  subst hsz
  have C : CX p s m _ c 4 cX7_changeHealth RX7 wsX7_changeHealth D (tyG cyI cyZ cyW) _ := C
  obtain ⟨Z, hZ⟩ : ∃ Z : va_W → Nat → LV → List Value → Prop, Z = ST p l e { frames := 2, cells := 0, slots := 0, locals := 42 } s m [.ref a_this, .int x1, .int x2].toArray below meth c 4 D (va_A (w_X7_changeHealth cyI cyZ cyW a_this v_this_date v_this_frozen a_this_healths a_this_favourers v_this_healths) s.heap.size) (MQ below (QV D (tyG cyI cyZ cyW) (w_X7_changeHealth cyI cyZ cyW a_this v_this_date v_this_frozen a_this_healths a_this_favourers v_this_healths) s.heap.size (w_X7_changeHealth cyI cyZ cyW a_this v_this_date res.1 a_this_healths a_this_favourers res.2)) [.ref a_this, .int x1, .int x2].toArray s 0 0 (va_A (w_X7_changeHealth cyI cyZ cyW a_this v_this_date v_this_frozen a_this_healths a_this_favourers v_this_healths) s.heap.size)) 0 0 := ⟨_, rfl⟩
  have hb_40 : ∀ (s0 : Int32) (s1 : Int32) (s2 : Int32) (v_this_frozen : Int32) (v_this_healths : Nat → Int32), f_X7_changeHealth_b40 s0 s1 s2 v_this_frozen v_this_healths = some res → Z (w_X7_changeHealth cyI cyZ cyW a_this v_this_date v_this_frozen a_this_healths a_this_favourers v_this_healths) 40 [] [.int s0, .int s1, .int s2, .ref a_this] := by
    subst hZ
    intro s0 s1 s2 v_this_frozen v_this_healths hf
    obtain ⟨y3, hy4, hf⟩ := bd_some hf
    refine r_roSN_i (As := [.int s2, .int s1, .int s0]) (rest := [.ref a_this]) C (c_X8_with l D cyI cyZ cyW s2 s1 s0 y3 hy4) gX7_changeHealth_X8_with_n41 11 rfl lk_X7_changeHealth_11 lk_X7_changeHealth_10 rfl hyS_X8_with ⟨rfl, rfl, (Nat.le_of_ble_eq_true rfl), (Nat.le_of_ble_eq_true rfl)⟩ rfl [] rfl rfl rfl (Nat.le_of_ble_eq_true rfl) ⟨Nat.zero_le _, Nat.zero_le _⟩ dX7_changeHealth_40 ?_
    refine r_put (ws' := (w_X7_changeHealth cyI cyZ cyW a_this v_this_date y3 a_this_healths a_this_favourers v_this_healths)) C in_X7_changeHealth_X7 tyX7 tyX7_ok nmX7 0 rfl rfl 1 (by decide) lk_X7_changeHealth_9 rfl rfl rfl rfl (Nat.le_of_ble_eq_true rfl) rfl dX7_changeHealth_43 ?_
    rw [← Option.some.inj hf]
    exact r_vret C hr hlk dX7_changeHealth_46
  subst hZ
  refine r_aload_n C dX7_changeHealth_0 rfl 0 rfl ?_
  refine r_get C in_X7_changeHealth_X7 0 rfl rfl 2 (by decide) lk_X7_changeHealth_1 rfl rfl dX7_changeHealth_1 ?_
  refine r_iload_n C dX7_changeHealth_4 rfl 1 rfl ?_
  obtain ⟨hi1, hf⟩ := gd_some hf
  refine r_iald C 1 0 rfl rfl hi1 dX7_changeHealth_5 ?_
  refine r_iload_n C dX7_changeHealth_6 rfl 2 rfl ?_
  refine r_iadd C dX7_changeHealth_7 ?_
  refine r_bipush C 20 dX7_changeHealth_8 (by decide) ?_
  refine r_mmin C lk_X7_changeHealth_2 lk_X7_changeHealth_3 lk_X7_changeHealth_4 lk_X7_changeHealth_5 (Nat.le_of_ble_eq_true rfl) (Nat.le_of_ble_eq_true rfl) (Nat.zero_le _) (Nat.zero_le _) dX7_changeHealth_10 ?_
  refine r_istore_n (lv' := [(3, .int (if 20 < ((v_this_healths (Int32.toNatClampNeg x1)) + x2) then 20 else ((v_this_healths (Int32.toNatClampNeg x1)) + x2))), (0, .ref a_this), (1, .int x1), (2, .int x2)]) C dX7_changeHealth_13 rfl (by decide) rfl ?_
  refine r_aload_n C dX7_changeHealth_14 rfl 1 rfl ?_
  refine r_get C in_X7_changeHealth_X7 0 rfl rfl 2 (by decide) lk_X7_changeHealth_1 rfl rfl dX7_changeHealth_15 ?_
  refine r_iload_n C dX7_changeHealth_18 rfl 2 rfl ?_
  refine r_iload_n C dX7_changeHealth_19 rfl 0 rfl ?_
  refine r_iconst C 0 dX7_changeHealth_20 (by decide) ?_
  refine r_mmax C lk_X7_changeHealth_6 lk_X7_changeHealth_7 lk_X7_changeHealth_4 lk_X7_changeHealth_8 (Nat.le_of_ble_eq_true rfl) (Nat.le_of_ble_eq_true rfl) (Nat.zero_le _) (Nat.zero_le _) dX7_changeHealth_21 ?_
  obtain ⟨hi2, hf⟩ := gd_some hf
  refine r_iast (ws' := (w_X7_changeHealth cyI cyZ cyW a_this v_this_date v_this_frozen a_this_healths a_this_favourers (upd v_this_healths (Int32.toNatClampNeg x1) (if (if 20 < ((v_this_healths (Int32.toNatClampNeg x1)) + x2) then 20 else ((v_this_healths (Int32.toNatClampNeg x1)) + x2)) < 0 then 0 else (if 20 < ((v_this_healths (Int32.toNatClampNeg x1)) + x2) then 20 else ((v_this_healths (Int32.toNatClampNeg x1)) + x2)))))) C 1 0 rfl rfl hi2 rfl dX7_changeHealth_24 ?_
  refine r_aload_n C dX7_changeHealth_25 rfl 1 rfl ?_
  refine r_aload_n C dX7_changeHealth_26 rfl 1 rfl ?_
  refine r_get C in_X7_changeHealth_X7 0 rfl rfl 1 (by decide) lk_X7_changeHealth_9 rfl rfl dX7_changeHealth_27 ?_
  refine r_iload_n C dX7_changeHealth_30 rfl 2 rfl ?_
  refine r_iload_n C dX7_changeHealth_31 rfl 0 rfl ?_
  refine r_if_gt C 39 dX7_changeHealth_32 (by decide) hf (fun hf => ?_) (fun hf => ?_)
  · refine r_iconst C 0 dX7_changeHealth_39 (by decide) ?_
    exact ST_lv [] rfl (hb_40 0 x1 v_this_frozen v_this_frozen (upd v_this_healths (Int32.toNatClampNeg x1) (if (if 20 < ((v_this_healths (Int32.toNatClampNeg x1)) + x2) then 20 else ((v_this_healths (Int32.toNatClampNeg x1)) + x2)) < 0 then 0 else (if 20 < ((v_this_healths (Int32.toNatClampNeg x1)) + x2) then 20 else ((v_this_healths (Int32.toNatClampNeg x1)) + x2)))) hf)
  · refine r_iconst C 1 dX7_changeHealth_35 (by decide) ?_
    refine r_goto C 40 dX7_changeHealth_36 (by decide) ?_
    exact ST_lv [] rfl (hb_40 1 x1 v_this_frozen v_this_frozen (upd v_this_healths (Int32.toNatClampNeg x1) (if (if 20 < ((v_this_healths (Int32.toNatClampNeg x1)) + x2) then 20 else ((v_this_healths (Int32.toNatClampNeg x1)) + x2)) < 0 then 0 else (if 20 < ((v_this_healths (Int32.toNatClampNeg x1)) + x2) then 20 else ((v_this_healths (Int32.toNatClampNeg x1)) + x2)))) hf)

theorem lk_X7_passDay_1 : Cond.fieldLink RX7 22 "ParishCoat$Winter" "frozen" "I" ∈ wsX7_passDay := List.mem_of_getElem? (i := 1) rfl
theorem lk_X7_passDay_2 : Cond.fieldLink RX7 18 "ParishCoat$Winter" "date" "I" ∈ wsX7_passDay := List.mem_of_getElem? (i := 2) rfl
theorem lk_X7_passDay_21 : Cond.static yX8_holds ∈ wsX7_passDay := List.mem_of_getElem? (i := 21) rfl
theorem lk_X7_passDay_22 : Cond.initialized RX8 ∈ wsX7_passDay := List.mem_of_getElem? (i := 22) rfl
theorem lk_X7_passDay_3 : Cond.fieldLink RX7 25 "ParishCoat$Told" "families" "I" ∈ wsX7_passDay := List.mem_of_getElem? (i := 3) rfl
theorem in_X7_passDay_X5 : ∀ w ∈ u_ws RX5 TX5 8, w ∈ wsX7_passDay := fun _ h => List.mem_cons_of_mem _ (List.mem_append_right _ h)
theorem in_X7_passDay_X7 : ∀ w ∈ u_ws RX7 TX7 4, w ∈ wsX7_passDay := fun _ h => List.mem_cons_of_mem _ (List.mem_append_left _ (List.mem_append_right _ h))
theorem hyV_X5_coldOn : yX5_coldOn.cls = RX5 ∧ yX5_coldOn.cls ≠ "java/lang/invoke/MethodHandle" ∧ yX5_coldOn.cls ≠ "java/lang/invoke/VarHandle" ∧ (parseMethodDescriptor yX5_coldOn.desc).map (fun d => d.parameters.length) = some 1 := by decide +kernel
theorem hyS_X5_coldOn : yX5_coldOn.cls ≠ "java/lang/invoke/MethodHandle" ∧ yX5_coldOn.cls ≠ "java/lang/invoke/VarHandle" ∧ (parseMethodDescriptor yX5_coldOn.desc).map (fun d => d.parameters.length) = some 1 := by decide +kernel
theorem hyV_X5_warmthOfSet : yX5_warmthOfSet.cls = RX5 ∧ yX5_warmthOfSet.cls ≠ "java/lang/invoke/MethodHandle" ∧ yX5_warmthOfSet.cls ≠ "java/lang/invoke/VarHandle" ∧ (parseMethodDescriptor yX5_warmthOfSet.desc).map (fun d => d.parameters.length) = some 1 := by decide +kernel
theorem hyS_X5_warmthOfSet : yX5_warmthOfSet.cls ≠ "java/lang/invoke/MethodHandle" ∧ yX5_warmthOfSet.cls ≠ "java/lang/invoke/VarHandle" ∧ (parseMethodDescriptor yX5_warmthOfSet.desc).map (fun d => d.parameters.length) = some 1 := by decide +kernel
theorem hyV_X7_changeHealth : yX7_changeHealth.cls = RX7 ∧ yX7_changeHealth.cls ≠ "java/lang/invoke/MethodHandle" ∧ yX7_changeHealth.cls ≠ "java/lang/invoke/VarHandle" ∧ (parseMethodDescriptor yX7_changeHealth.desc).map (fun d => d.parameters.length) = some 2 := by decide +kernel
theorem hyS_X7_changeHealth : yX7_changeHealth.cls ≠ "java/lang/invoke/MethodHandle" ∧ yX7_changeHealth.cls ≠ "java/lang/invoke/VarHandle" ∧ (parseMethodDescriptor yX7_changeHealth.desc).map (fun d => d.parameters.length) = some 2 := by decide +kernel
def f_X7_passDay_b116 (v_p0_families : Int32) (v_p0_quota : Int32) (v_p0_coldCount : Int32) (v_p0_colds : Nat → Int32) (v_this_favourers : Nat → Int32) (v_p0_kinds : Nat → Int32) (v_p0_warmths : Nat → Int32) (k_56 : Int32 → Int32 → Int32 → Int32 → Int32 → Int32 → Int32 → (Nat → Int32) → Option (Int32 × Int32 × Int32 × (Nat → Int32))) (x3 : Int32) (x4 : Int32) (x6 : Int32) (x7 : Int32) (x8 : Int32) (v_this_date : Int32) (v_this_frozen : Int32) (v_this_healths : Nat → Int32) : Option (Int32 × Int32 × Int32 × (Nat → Int32)) := k_56 x3 x4 x6 x7 (x8 + 1) v_this_date v_this_frozen v_this_healths
def f_X7_passDay_b99 (v_p0_families : Int32) (v_p0_quota : Int32) (v_p0_coldCount : Int32) (v_p0_colds : Nat → Int32) (v_this_favourers : Nat → Int32) (v_p0_kinds : Nat → Int32) (v_p0_warmths : Nat → Int32) (k_56 : Int32 → Int32 → Int32 → Int32 → Int32 → Int32 → Int32 → (Nat → Int32) → Option (Int32 × Int32 × Int32 × (Nat → Int32))) (x3 : Int32) (x4 : Int32) (x6 : Int32) (x7 : Int32) (x8 : Int32) (s0 : Int32) (s1 : Int32) (v_this_date : Int32) (v_this_frozen : Int32) (v_this_healths : Nat → Int32) : Option (Int32 × Int32 × Int32 × (Nat → Int32)) := bd2 (f_X7_changeHealth v_this_frozen v_this_healths s1 s0) (fun y15_0 y15_1 => f_X7_passDay_b116 v_p0_families v_p0_quota v_p0_coldCount v_p0_colds v_this_favourers v_p0_kinds v_p0_warmths k_56 x3 x4 x6 x7 x8 v_this_date y15_0 y15_1)
def f_X7_passDay_s56 (v_p0_families : Int32) (v_p0_quota : Int32) (v_p0_coldCount : Int32) (v_p0_colds : Nat → Int32) (v_this_favourers : Nat → Int32) (v_p0_kinds : Nat → Int32) (v_p0_warmths : Nat → Int32) (k_56 : Int32 → Int32 → Int32 → Int32 → Int32 → Int32 → Int32 → (Nat → Int32) → Option (Int32 × Int32 × Int32 × (Nat → Int32))) (x3 : Int32) (x4 : Int32) (x6 : Int32) (x7 : Int32) (x8 : Int32) (v_this_date : Int32) (v_this_frozen : Int32) (v_this_healths : Nat → Int32) : Option (Int32 × Int32 × Int32 × (Nat → Int32)) := if v_p0_families ≤ x8 then (some ((v_this_frozen &&& (x3 ^^^ (-1))), (v_this_date + 1), v_this_frozen, v_this_healths)) else ((f_X8_holds x3 x8).bind fun y11 => if y11 = 0 then (if x8 = x6 then (if x7 ≤ 0 then (f_X7_passDay_b99 v_p0_families v_p0_quota v_p0_coldCount v_p0_colds v_this_favourers v_p0_kinds v_p0_warmths k_56 x3 x4 x6 x7 x8 2 x8 v_this_date v_this_frozen v_this_healths) else (f_X7_passDay_b99 v_p0_families v_p0_quota v_p0_coldCount v_p0_colds v_this_favourers v_p0_kinds v_p0_warmths k_56 x3 x4 x6 x7 x8 (-x7) x8 v_this_date v_this_frozen v_this_healths)) else (bd2 (f_X7_changeHealth v_this_frozen v_this_healths x8 (-(x4 / 5))) (fun y13_0 y13_1 => f_X7_passDay_b116 v_p0_families v_p0_quota v_p0_coldCount v_p0_colds v_this_favourers v_p0_kinds v_p0_warmths k_56 x3 x4 x6 x7 x8 v_this_date y13_0 y13_1))) else (f_X7_passDay_b116 v_p0_families v_p0_quota v_p0_coldCount v_p0_colds v_this_favourers v_p0_kinds v_p0_warmths k_56 x3 x4 x6 x7 x8 v_this_date v_this_frozen v_this_healths))
def f_X7_passDay_b56 (v_p0_families : Int32) (v_p0_quota : Int32) (v_p0_coldCount : Int32) (v_p0_colds : Nat → Int32) (v_this_favourers : Nat → Int32) (v_p0_kinds : Nat → Int32) (v_p0_warmths : Nat → Int32) (n : Nat) : Int32 → Int32 → Int32 → Int32 → Int32 → Int32 → Int32 → (Nat → Int32) → Option (Int32 × Int32 × Int32 × (Nat → Int32)) := it_ (f_X7_passDay_s56 v_p0_families v_p0_quota v_p0_coldCount v_p0_colds v_this_favourers v_p0_kinds v_p0_warmths ) (fun _ _ _ _ _ _ _ _ => none) n
def f_X7_passDay_b40 (v_p0_families : Int32) (v_p0_quota : Int32) (v_p0_coldCount : Int32) (v_p0_colds : Nat → Int32) (v_this_favourers : Nat → Int32) (v_p0_kinds : Nat → Int32) (v_p0_warmths : Nat → Int32) (x3 : Int32) (x4 : Int32) (x5 : Int32) (s0 : Int32) (v_this_date : Int32) (v_this_frozen : Int32) (v_this_healths : Nat → Int32) : Option (Int32 × Int32 × Int32 × (Nat → Int32)) := (f_X5_warmthOfSet v_p0_families v_p0_warmths x5).bind fun y9 => f_X7_passDay_b56 v_p0_families v_p0_quota v_p0_coldCount v_p0_colds v_this_favourers v_p0_kinds v_p0_warmths 5000 x3 x4 s0 (x4 - y9) 0 v_this_date v_this_frozen v_this_healths
def f_X7_passDay (v_this_date : Int32) (v_this_frozen : Int32) (v_p0_families : Int32) (v_p0_quota : Int32) (v_p0_coldCount : Int32) (v_p0_colds : Nat → Int32) (v_this_favourers : Nat → Int32) (v_p0_kinds : Nat → Int32) (v_p0_warmths : Nat → Int32) (v_this_healths : Nat → Int32) (x2 : Int32) : Option (Int32 × Int32 × Int32 × (Nat → Int32)) := (f_X5_coldOn v_p0_coldCount v_p0_colds v_this_date).bind fun y1 => (f_X7_doneUpFor v_this_frozen v_this_favourers x2).bind fun y3 => (f_X7_isNight v_this_date).bind fun y5 => (f_X5_isCarriedBy v_p0_families v_p0_quota v_p0_kinds y3 y5).bind fun y7 => if y7 = 0 then (f_X7_passDay_b40 v_p0_families v_p0_quota v_p0_coldCount v_p0_colds v_this_favourers v_p0_kinds v_p0_warmths v_this_frozen y1 y3 (-1) v_this_date v_this_frozen v_this_healths) else (f_X7_passDay_b40 v_p0_families v_p0_quota v_p0_coldCount v_p0_colds v_this_favourers v_p0_kinds v_p0_warmths v_this_frozen y1 y3 x2 v_this_date v_this_frozen v_this_healths)
def w_X7_passDay (cyI cyZ cyW : ClassId) (a_this : Nat) (v_this_date : Int32) (v_this_frozen : Int32) (a_this_healths : Nat) (a_this_favourers : Nat) (a_p0 : Nat) (v_p0_families : Int32) (v_p0_quota : Int32) (v_p0_coldCount : Int32) (a_p0_kinds : Nat) (a_p0_warmths : Nat) (a_p0_prices : Nat) (a_p0_favourers : Nat) (a_p0_colds : Nat) (v_p0_colds : Nat → Int32) (v_this_favourers : Nat → Int32) (v_p0_kinds : Nat → Int32) (v_p0_warmths : Nat → Int32) (v_this_healths : Nat → Int32) : va_W := [(a_this, .inr (7, [.int v_this_date, .int v_this_frozen, .ref a_this_healths, .ref a_this_favourers])), (a_p0, .inr (5, [.int v_p0_families, .int v_p0_quota, .int v_p0_coldCount, .ref a_p0_kinds, .ref a_p0_warmths, .ref a_p0_prices, .ref a_p0_favourers, .ref a_p0_colds])), (a_p0_colds, .inl (cyI, 6, .inl v_p0_colds)), (a_this_favourers, .inl (cyI, 7, .inl v_this_favourers)), (a_p0_kinds, .inl (cyI, 7, .inl v_p0_kinds)), (a_p0_warmths, .inl (cyI, 7, .inl v_p0_warmths)), (a_this_healths, .inl (cyI, 7, .inl v_this_healths))]
set_option maxHeartbeats 4000000 in
set_option maxRecDepth 100000 in
theorem c_X7_passDay (l : Launch) (D : va_G) (cyI cyZ cyW : ClassId) (a_this : Nat) (v_this_date : Int32) (v_this_frozen : Int32) (a_this_healths : Nat) (a_this_favourers : Nat) (a_p0 : Nat) (v_p0_families : Int32) (v_p0_quota : Int32) (v_p0_coldCount : Int32) (a_p0_kinds : Nat) (a_p0_warmths : Nat) (a_p0_prices : Nat) (a_p0_favourers : Nat) (a_p0_colds : Nat) (v_p0_colds : Nat → Int32) (v_this_favourers : Nat → Int32) (v_p0_kinds : Nat → Int32) (v_p0_warmths : Nat → Int32) (v_this_healths : Nat → Int32) (x2 : Int32) (res : Int32 × Int32 × Int32 × (Nat → Int32)) (hf : f_X7_passDay v_this_date v_this_frozen v_p0_families v_p0_quota v_p0_coldCount v_p0_colds v_this_favourers v_p0_kinds v_p0_warmths v_this_healths x2 = some res) : ∀ sz, Met l yX7_passDay wsX7_passDay { frames := 3, cells := 0, slots := 0, locals := 68 } (PCx D (tyG cyI cyZ cyW) [.ref a_this, .ref a_p0, .int x2] (w_X7_passDay cyI cyZ cyW a_this v_this_date v_this_frozen a_this_healths a_this_favourers a_p0 v_p0_families v_p0_quota v_p0_coldCount a_p0_kinds a_p0_warmths a_p0_prices a_p0_favourers a_p0_colds v_p0_colds v_this_favourers v_p0_kinds v_p0_warmths v_this_healths) sz) (QI D (tyG cyI cyZ cyW) (w_X7_passDay cyI cyZ cyW a_this v_this_date v_this_frozen a_this_healths a_this_favourers a_p0 v_p0_families v_p0_quota v_p0_coldCount a_p0_kinds a_p0_warmths a_p0_prices a_p0_favourers a_p0_colds v_p0_colds v_this_favourers v_p0_kinds v_p0_warmths v_this_healths) sz res.1 (w_X7_passDay cyI cyZ cyW a_this res.2.1 res.2.2.1 a_this_healths a_this_favourers a_p0 v_p0_families v_p0_quota v_p0_coldCount a_p0_kinds a_p0_warmths a_p0_prices a_p0_favourers a_p0_colds v_p0_colds v_this_favourers v_p0_kinds v_p0_warmths res.2.2.2)) 0 0 (va_A (w_X7_passDay cyI cyZ cyW a_this v_this_date v_this_frozen a_this_healths a_this_favourers a_p0 v_p0_families v_p0_quota v_p0_coldCount a_p0_kinds a_p0_warmths a_p0_prices a_p0_favourers a_p0_colds v_p0_colds v_this_favourers v_p0_kinds v_p0_warmths v_this_healths) sz) := by
  intro sz
  refine met_of (cc := cX7_passDay) (maxL := 9) (ret := (some .int)) (lv0 := [(0, .ref a_this), (1, .ref a_p0), (2, .int x2)]) (by decide) rfl ⟨(Nat.le_of_ble_eq_true rfl), rfl⟩ ?_
  intro p e s m below meth c C hr hlk hnm hsz
  subst hsz
  have C : CX p s m _ c 9 cX7_passDay RX7 wsX7_passDay D (tyG cyI cyZ cyW) _ := C
  obtain ⟨Z, hZ⟩ : ∃ Z : va_W → Nat → LV → List Value → Prop, Z = ST p l e { frames := 3, cells := 0, slots := 0, locals := 68 } s m [.ref a_this, .ref a_p0, .int x2].toArray below meth c 9 D (va_A (w_X7_passDay cyI cyZ cyW a_this v_this_date v_this_frozen a_this_healths a_this_favourers a_p0 v_p0_families v_p0_quota v_p0_coldCount a_p0_kinds a_p0_warmths a_p0_prices a_p0_favourers a_p0_colds v_p0_colds v_this_favourers v_p0_kinds v_p0_warmths v_this_healths) s.heap.size) (MQ below (QI D (tyG cyI cyZ cyW) (w_X7_passDay cyI cyZ cyW a_this v_this_date v_this_frozen a_this_healths a_this_favourers a_p0 v_p0_families v_p0_quota v_p0_coldCount a_p0_kinds a_p0_warmths a_p0_prices a_p0_favourers a_p0_colds v_p0_colds v_this_favourers v_p0_kinds v_p0_warmths v_this_healths) s.heap.size res.1 (w_X7_passDay cyI cyZ cyW a_this res.2.1 res.2.2.1 a_this_healths a_this_favourers a_p0 v_p0_families v_p0_quota v_p0_coldCount a_p0_kinds a_p0_warmths a_p0_prices a_p0_favourers a_p0_colds v_p0_colds v_this_favourers v_p0_kinds v_p0_warmths res.2.2.2)) [.ref a_this, .ref a_p0, .int x2].toArray s 0 0 (va_A (w_X7_passDay cyI cyZ cyW a_this v_this_date v_this_frozen a_this_healths a_this_favourers a_p0 v_p0_families v_p0_quota v_p0_coldCount a_p0_kinds a_p0_warmths a_p0_prices a_p0_favourers a_p0_colds v_p0_colds v_this_favourers v_p0_kinds v_p0_warmths v_this_healths) s.heap.size)) 0 0 := ⟨_, rfl⟩
  have hb_116 : ∀ (k_56 : Int32 → Int32 → Int32 → Int32 → Int32 → Int32 → Int32 → (Nat → Int32) → Option (Int32 × Int32 × Int32 × (Nat → Int32))), (∀ (x3 : Int32) (x4 : Int32) (x6 : Int32) (x7 : Int32) (x8 : Int32) (v_this_date : Int32) (v_this_frozen : Int32) (v_this_healths : Nat → Int32), k_56 x3 x4 x6 x7 x8 v_this_date v_this_frozen v_this_healths = some res → Z (w_X7_passDay cyI cyZ cyW a_this v_this_date v_this_frozen a_this_healths a_this_favourers a_p0 v_p0_families v_p0_quota v_p0_coldCount a_p0_kinds a_p0_warmths a_p0_prices a_p0_favourers a_p0_colds v_p0_colds v_this_favourers v_p0_kinds v_p0_warmths v_this_healths) 56 [(0, .ref a_this), (1, .ref a_p0), (3, .int x3), (4, .int x4), (6, .int x6), (7, .int x7), (8, .int x8)] []) → ∀ (x3 : Int32) (x4 : Int32) (x6 : Int32) (x7 : Int32) (x8 : Int32) (v_this_date : Int32) (v_this_frozen : Int32) (v_this_healths : Nat → Int32), f_X7_passDay_b116 v_p0_families v_p0_quota v_p0_coldCount v_p0_colds v_this_favourers v_p0_kinds v_p0_warmths k_56 x3 x4 x6 x7 x8 v_this_date v_this_frozen v_this_healths = some res → Z (w_X7_passDay cyI cyZ cyW a_this v_this_date v_this_frozen a_this_healths a_this_favourers a_p0 v_p0_families v_p0_quota v_p0_coldCount a_p0_kinds a_p0_warmths a_p0_prices a_p0_favourers a_p0_colds v_p0_colds v_this_favourers v_p0_kinds v_p0_warmths v_this_healths) 116 [(0, .ref a_this), (1, .ref a_p0), (3, .int x3), (4, .int x4), (6, .int x6), (7, .int x7), (8, .int x8)] [] := by
    subst hZ
    intro k_56 hk_56 x3 x4 x6 x7 x8 v_this_date v_this_frozen v_this_healths hf
    refine r_iinc (v := 1) (k := 6) (lv' := [(8, .int (x8 + 1)), (0, .ref a_this), (1, .ref a_p0), (3, .int x3), (4, .int x4), (6, .int x6), (7, .int x7)]) C dX7_passDay_116 rfl (by decide) (by decide) rfl ?_
    refine r_goto C 56 dX7_passDay_119 (by decide) ?_
    exact ST_lv [1, 2, 3, 4, 5, 6, 0] rfl (hk_56 x3 x4 x6 x7 (x8 + 1) v_this_date v_this_frozen v_this_healths hf)
  have hb_99 : ∀ (k_56 : Int32 → Int32 → Int32 → Int32 → Int32 → Int32 → Int32 → (Nat → Int32) → Option (Int32 × Int32 × Int32 × (Nat → Int32))), (∀ (x3 : Int32) (x4 : Int32) (x6 : Int32) (x7 : Int32) (x8 : Int32) (v_this_date : Int32) (v_this_frozen : Int32) (v_this_healths : Nat → Int32), k_56 x3 x4 x6 x7 x8 v_this_date v_this_frozen v_this_healths = some res → Z (w_X7_passDay cyI cyZ cyW a_this v_this_date v_this_frozen a_this_healths a_this_favourers a_p0 v_p0_families v_p0_quota v_p0_coldCount a_p0_kinds a_p0_warmths a_p0_prices a_p0_favourers a_p0_colds v_p0_colds v_this_favourers v_p0_kinds v_p0_warmths v_this_healths) 56 [(0, .ref a_this), (1, .ref a_p0), (3, .int x3), (4, .int x4), (6, .int x6), (7, .int x7), (8, .int x8)] []) → ∀ (x3 : Int32) (x4 : Int32) (x6 : Int32) (x7 : Int32) (x8 : Int32) (s0 : Int32) (s1 : Int32) (v_this_date : Int32) (v_this_frozen : Int32) (v_this_healths : Nat → Int32), f_X7_passDay_b99 v_p0_families v_p0_quota v_p0_coldCount v_p0_colds v_this_favourers v_p0_kinds v_p0_warmths k_56 x3 x4 x6 x7 x8 s0 s1 v_this_date v_this_frozen v_this_healths = some res → Z (w_X7_passDay cyI cyZ cyW a_this v_this_date v_this_frozen a_this_healths a_this_favourers a_p0 v_p0_families v_p0_quota v_p0_coldCount a_p0_kinds a_p0_warmths a_p0_prices a_p0_favourers a_p0_colds v_p0_colds v_this_favourers v_p0_kinds v_p0_warmths v_this_healths) 99 [(0, .ref a_this), (1, .ref a_p0), (3, .int x3), (4, .int x4), (6, .int x6), (7, .int x7), (8, .int x8)] [.int s0, .int s1, .ref a_this] := by
    subst hZ
    intro k_56 hk_56 x3 x4 x6 x7 x8 s0 s1 v_this_date v_this_frozen v_this_healths hf
    obtain ⟨y15_0, y15_1, hy16, hf⟩ := bd2_some hf
    refine r_callV_v (As := [.int s1, .int s0]) (rest := []) (ws' := (w_X7_passDay cyI cyZ cyW a_this v_this_date y15_0 a_this_healths a_this_favourers a_p0 v_p0_families v_p0_quota v_p0_coldCount a_p0_kinds a_p0_warmths a_p0_prices a_p0_favourers a_p0_colds v_p0_colds v_this_favourers v_p0_kinds v_p0_warmths y15_1)) C (c_X7_changeHealth l D cyI cyZ cyW a_this v_this_date v_this_frozen a_this_healths a_this_favourers v_this_healths s1 s0 (y15_0, y15_1) hy16) gX7_passDay_X7_changeHealth rfl hyV_X7_changeHealth ⟨rfl, rfl, (Nat.le_of_ble_eq_true rfl), (Nat.le_of_ble_eq_true rfl)⟩ rfl 0 rfl rfl [0, 6] rfl rfl rfl rfl rfl (Nat.le_of_ble_eq_true rfl) ⟨Nat.zero_le _, Nat.zero_le _⟩ dX7_passDay_99 ?_
    refine r_goto C 116 dX7_passDay_102 (by decide) ?_
    exact ST_lv [0, 1, 2, 3, 4, 5, 6] rfl (hb_116 k_56 hk_56 x3 x4 x6 x7 x8 v_this_date y15_0 y15_1 hf)
  have hs_56 : ∀ (k_56 : Int32 → Int32 → Int32 → Int32 → Int32 → Int32 → Int32 → (Nat → Int32) → Option (Int32 × Int32 × Int32 × (Nat → Int32))), (∀ (x3 : Int32) (x4 : Int32) (x6 : Int32) (x7 : Int32) (x8 : Int32) (v_this_date : Int32) (v_this_frozen : Int32) (v_this_healths : Nat → Int32), k_56 x3 x4 x6 x7 x8 v_this_date v_this_frozen v_this_healths = some res → Z (w_X7_passDay cyI cyZ cyW a_this v_this_date v_this_frozen a_this_healths a_this_favourers a_p0 v_p0_families v_p0_quota v_p0_coldCount a_p0_kinds a_p0_warmths a_p0_prices a_p0_favourers a_p0_colds v_p0_colds v_this_favourers v_p0_kinds v_p0_warmths v_this_healths) 56 [(0, .ref a_this), (1, .ref a_p0), (3, .int x3), (4, .int x4), (6, .int x6), (7, .int x7), (8, .int x8)] []) → ∀ (x3 : Int32) (x4 : Int32) (x6 : Int32) (x7 : Int32) (x8 : Int32) (v_this_date : Int32) (v_this_frozen : Int32) (v_this_healths : Nat → Int32), f_X7_passDay_s56 v_p0_families v_p0_quota v_p0_coldCount v_p0_colds v_this_favourers v_p0_kinds v_p0_warmths k_56 x3 x4 x6 x7 x8 v_this_date v_this_frozen v_this_healths = some res → Z (w_X7_passDay cyI cyZ cyW a_this v_this_date v_this_frozen a_this_healths a_this_favourers a_p0 v_p0_families v_p0_quota v_p0_coldCount a_p0_kinds a_p0_warmths a_p0_prices a_p0_favourers a_p0_colds v_p0_colds v_this_favourers v_p0_kinds v_p0_warmths v_this_healths) 56 [(0, .ref a_this), (1, .ref a_p0), (3, .int x3), (4, .int x4), (6, .int x6), (7, .int x7), (8, .int x8)] [] := by
    subst hZ
    intro k_56 hk_56 x3 x4 x6 x7 x8 v_this_date v_this_frozen v_this_healths hf
    refine r_iload C dX7_passDay_56 6 rfl ?_
    refine r_aload_n C dX7_passDay_58 rfl 1 rfl ?_
    refine r_get C in_X7_passDay_X5 1 rfl rfl 0 (by decide) lk_X7_passDay_3 rfl rfl dX7_passDay_59 ?_
    refine r_icmp_ge C 122 dX7_passDay_62 (by decide) hf (fun hf => ?_) (fun hf => ?_)
    · refine r_aload_n C dX7_passDay_122 rfl 0 rfl ?_
      refine r_dup C dX7_passDay_123 rfl ?_
      refine r_get C in_X7_passDay_X7 0 rfl rfl 0 (by decide) lk_X7_passDay_2 rfl rfl dX7_passDay_124 ?_
      refine r_iconst C 1 dX7_passDay_127 (by decide) ?_
      refine r_iadd C dX7_passDay_128 ?_
      refine r_put (ws' := (w_X7_passDay cyI cyZ cyW a_this (v_this_date + 1) v_this_frozen a_this_healths a_this_favourers a_p0 v_p0_families v_p0_quota v_p0_coldCount a_p0_kinds a_p0_warmths a_p0_prices a_p0_favourers a_p0_colds v_p0_colds v_this_favourers v_p0_kinds v_p0_warmths v_this_healths)) C in_X7_passDay_X7 tyX7 tyX7_ok nmX7 0 rfl rfl 0 (by decide) lk_X7_passDay_2 rfl rfl rfl rfl (Nat.le_of_ble_eq_true rfl) rfl dX7_passDay_129 ?_
      refine r_aload_n C dX7_passDay_132 rfl 0 rfl ?_
      refine r_get C in_X7_passDay_X7 0 rfl rfl 1 (by decide) lk_X7_passDay_1 rfl rfl dX7_passDay_133 ?_
      refine r_iload_n C dX7_passDay_136 rfl 2 rfl ?_
      refine r_iconst C (-1) dX7_passDay_137 (by decide) ?_
      refine r_ixor C dX7_passDay_138 ?_
      refine r_iand C dX7_passDay_139 ?_
      rw [← Option.some.inj hf]
      exact r_iret C hr hlk dX7_passDay_140
    · refine r_iload_n C dX7_passDay_65 rfl 2 rfl ?_
      refine r_iload C dX7_passDay_66 6 rfl ?_
      obtain ⟨y11, hy12, hf⟩ := bd_some hf
      refine r_roSN_i (As := [.int x3, .int x8]) (rest := []) C (c_X8_holds l D cyI cyZ cyW x3 x8 y11 hy12) gX7_passDay_X8_holds_n37 10 rfl lk_X7_passDay_22 lk_X7_passDay_21 rfl hyS_X8_holds ⟨rfl, rfl, (Nat.le_of_ble_eq_true rfl), (Nat.le_of_ble_eq_true rfl)⟩ rfl [] rfl rfl rfl (Nat.le_of_ble_eq_true rfl) ⟨Nat.zero_le _, Nat.zero_le _⟩ dX7_passDay_68 ?_
      refine r_if_eq C 77 dX7_passDay_71 (by decide) hf (fun hf => ?_) (fun hf => ?_)
      · refine r_iload C dX7_passDay_77 6 rfl ?_
        refine r_iload C dX7_passDay_79 4 rfl ?_
        refine r_icmp_ne C 105 dX7_passDay_81 (by decide) hf (fun hf => ?_) (fun hf => ?_)
        · refine r_aload_n C dX7_passDay_105 rfl 0 rfl ?_
          refine r_iload C dX7_passDay_106 6 rfl ?_
          refine r_iload C dX7_passDay_108 3 rfl ?_
          refine r_iconst C 5 dX7_passDay_110 (by decide) ?_
          refine r_idiv C dX7_passDay_111 (by decide) ?_
          refine r_ineg C dX7_passDay_112 ?_
          obtain ⟨y13_0, y13_1, hy14, hf⟩ := bd2_some hf
          refine r_callV_v (As := [.int x8, .int (-(x4 / 5))]) (rest := []) (ws' := (w_X7_passDay cyI cyZ cyW a_this v_this_date y13_0 a_this_healths a_this_favourers a_p0 v_p0_families v_p0_quota v_p0_coldCount a_p0_kinds a_p0_warmths a_p0_prices a_p0_favourers a_p0_colds v_p0_colds v_this_favourers v_p0_kinds v_p0_warmths y13_1)) C (c_X7_changeHealth l D cyI cyZ cyW a_this v_this_date v_this_frozen a_this_healths a_this_favourers v_this_healths x8 (-(x4 / 5)) (y13_0, y13_1) hy14) gX7_passDay_X7_changeHealth rfl hyV_X7_changeHealth ⟨rfl, rfl, (Nat.le_of_ble_eq_true rfl), (Nat.le_of_ble_eq_true rfl)⟩ rfl 0 rfl rfl [0, 6] rfl rfl rfl rfl rfl (Nat.le_of_ble_eq_true rfl) ⟨Nat.zero_le _, Nat.zero_le _⟩ dX7_passDay_113 ?_
          exact ST_lv [0, 1, 2, 3, 4, 5, 6] rfl (hb_116 k_56 hk_56 x3 x4 x6 x7 x8 v_this_date y13_0 y13_1 hf)
        · refine r_aload_n C dX7_passDay_84 rfl 0 rfl ?_
          refine r_iload C dX7_passDay_85 6 rfl ?_
          refine r_iload C dX7_passDay_87 5 rfl ?_
          refine r_if_le C 98 dX7_passDay_89 (by decide) hf (fun hf => ?_) (fun hf => ?_)
          · refine r_iconst C 2 dX7_passDay_98 (by decide) ?_
            exact ST_lv [0, 1, 2, 3, 4, 5, 6] rfl (hb_99 k_56 hk_56 x3 x4 x6 x7 x8 2 x8 v_this_date v_this_frozen v_this_healths hf)
          · refine r_iload C dX7_passDay_92 5 rfl ?_
            refine r_ineg C dX7_passDay_94 ?_
            refine r_goto C 99 dX7_passDay_95 (by decide) ?_
            exact ST_lv [0, 1, 2, 3, 4, 5, 6] rfl (hb_99 k_56 hk_56 x3 x4 x6 x7 x8 (-x7) x8 v_this_date v_this_frozen v_this_healths hf)
      · refine r_goto C 116 dX7_passDay_74 (by decide) ?_
        exact ST_lv [0, 1, 2, 3, 4, 5, 6] rfl (hb_116 k_56 hk_56 x3 x4 x6 x7 x8 v_this_date v_this_frozen v_this_healths hf)
  have hb_56 : ∀ (n : Nat) (x3 : Int32) (x4 : Int32) (x6 : Int32) (x7 : Int32) (x8 : Int32) (v_this_date : Int32) (v_this_frozen : Int32) (v_this_healths : Nat → Int32), f_X7_passDay_b56 v_p0_families v_p0_quota v_p0_coldCount v_p0_colds v_this_favourers v_p0_kinds v_p0_warmths n x3 x4 x6 x7 x8 v_this_date v_this_frozen v_this_healths = some res → Z (w_X7_passDay cyI cyZ cyW a_this v_this_date v_this_frozen a_this_healths a_this_favourers a_p0 v_p0_families v_p0_quota v_p0_coldCount a_p0_kinds a_p0_warmths a_p0_prices a_p0_favourers a_p0_colds v_p0_colds v_this_favourers v_p0_kinds v_p0_warmths v_this_healths) 56 [(0, .ref a_this), (1, .ref a_p0), (3, .int x3), (4, .int x4), (6, .int x6), (7, .int x7), (8, .int x8)] [] := by
    intro  n
    induction n with
    | zero => intro x3 x4 x6 x7 x8 v_this_date v_this_frozen v_this_healths hf; exact nn_ hf
    | succ n ih => exact fun x3 x4 x6 x7 x8 v_this_date v_this_frozen v_this_healths hf => hs_56 _ ih x3 x4 x6 x7 x8 v_this_date v_this_frozen v_this_healths hf
  have hb_40 : ∀ (x3 : Int32) (x4 : Int32) (x5 : Int32) (s0 : Int32) (v_this_date : Int32) (v_this_frozen : Int32) (v_this_healths : Nat → Int32), f_X7_passDay_b40 v_p0_families v_p0_quota v_p0_coldCount v_p0_colds v_this_favourers v_p0_kinds v_p0_warmths x3 x4 x5 s0 v_this_date v_this_frozen v_this_healths = some res → Z (w_X7_passDay cyI cyZ cyW a_this v_this_date v_this_frozen a_this_healths a_this_favourers a_p0 v_p0_families v_p0_quota v_p0_coldCount a_p0_kinds a_p0_warmths a_p0_prices a_p0_favourers a_p0_colds v_p0_colds v_this_favourers v_p0_kinds v_p0_warmths v_this_healths) 40 [(0, .ref a_this), (1, .ref a_p0), (3, .int x3), (4, .int x4), (5, .int x5)] [.int s0] := by
    subst hZ
    intro x3 x4 x5 s0 v_this_date v_this_frozen v_this_healths hf
    refine r_istore (lv' := [(6, .int s0), (0, .ref a_this), (1, .ref a_p0), (3, .int x3), (4, .int x4), (5, .int x5)]) C dX7_passDay_40 (by decide) rfl ?_
    refine r_iload C dX7_passDay_42 4 rfl ?_
    refine r_aload_n C dX7_passDay_44 rfl 2 rfl ?_
    refine r_iload C dX7_passDay_45 5 rfl ?_
    obtain ⟨y9, hy10, hf⟩ := bd_some hf
    refine r_roV_i (As := [.int x5]) (rest := [.int x4]) C (c_X5_warmthOfSet l D cyI cyZ cyW a_p0 v_p0_families v_p0_quota v_p0_coldCount a_p0_kinds a_p0_warmths a_p0_prices a_p0_favourers a_p0_colds v_p0_warmths x5 y9 hy10) gX7_passDay_X5_warmthOfSet rfl hyV_X5_warmthOfSet ⟨rfl, rfl, (Nat.le_of_ble_eq_true rfl), (Nat.le_of_ble_eq_true rfl)⟩ rfl 1 rfl rfl [1, 5] rfl rfl rfl (Nat.le_of_ble_eq_true rfl) ⟨Nat.zero_le _, Nat.zero_le _⟩ dX7_passDay_47 ?_
    refine r_isub C dX7_passDay_50 ?_
    refine r_istore (lv' := [(7, .int (x4 - y9)), (6, .int s0), (0, .ref a_this), (1, .ref a_p0), (3, .int x3), (4, .int x4), (5, .int x5)]) C dX7_passDay_51 (by decide) rfl ?_
    refine r_iconst C 0 dX7_passDay_53 (by decide) ?_
    refine r_istore (lv' := [(8, .int 0), (7, .int (x4 - y9)), (6, .int s0), (0, .ref a_this), (1, .ref a_p0), (3, .int x3), (4, .int x4), (5, .int x5)]) C dX7_passDay_54 (by decide) rfl ?_
    exact ST_lv [3, 4, 5, 6, 2, 1, 0] rfl (hb_56 5000 x3 x4 s0 (x4 - y9) 0 v_this_date v_this_frozen v_this_healths hf)
  subst hZ
  refine r_aload_n C dX7_passDay_0 rfl 0 rfl ?_
  refine r_get C in_X7_passDay_X7 0 rfl rfl 1 (by decide) lk_X7_passDay_1 rfl rfl dX7_passDay_1 ?_
  refine r_istore_n (lv' := [(3, .int v_this_frozen), (0, .ref a_this), (1, .ref a_p0), (2, .int x2)]) C dX7_passDay_4 rfl (by decide) rfl ?_
  refine r_aload_n C dX7_passDay_5 rfl 2 rfl ?_
  refine r_aload_n C dX7_passDay_6 rfl 1 rfl ?_
  refine r_get C in_X7_passDay_X7 0 rfl rfl 0 (by decide) lk_X7_passDay_2 rfl rfl dX7_passDay_7 ?_
  obtain ⟨y1, hy2, hf⟩ := bd_some hf
  refine r_roV_i (As := [.int v_this_date]) (rest := []) C (c_X5_coldOn l D cyI cyZ cyW a_p0 v_p0_families v_p0_quota v_p0_coldCount a_p0_kinds a_p0_warmths a_p0_prices a_p0_favourers a_p0_colds v_p0_colds v_this_date y1 hy2) gX7_passDay_X5_coldOn rfl hyV_X5_coldOn ⟨rfl, rfl, (Nat.le_of_ble_eq_true rfl), (Nat.le_of_ble_eq_true rfl)⟩ rfl 1 rfl rfl [1, 2] rfl rfl rfl (Nat.le_of_ble_eq_true rfl) ⟨Nat.zero_le _, Nat.zero_le _⟩ dX7_passDay_10 ?_
  refine r_istore (lv' := [(4, .int y1), (3, .int v_this_frozen), (0, .ref a_this), (1, .ref a_p0), (2, .int x2)]) C dX7_passDay_13 (by decide) rfl ?_
  refine r_aload_n C dX7_passDay_15 rfl 2 rfl ?_
  refine r_iload_n C dX7_passDay_16 rfl 4 rfl ?_
  obtain ⟨y3, hy4, hf⟩ := bd_some hf
  refine r_roV_i (As := [.int x2]) (rest := []) C (c_X7_doneUpFor l D cyI cyZ cyW a_this v_this_date v_this_frozen a_this_healths a_this_favourers v_this_favourers x2 y3 hy4) gX7_passDay_X7_doneUpFor rfl hyV_X7_doneUpFor ⟨rfl, rfl, (Nat.le_of_ble_eq_true rfl), (Nat.le_of_ble_eq_true rfl)⟩ rfl 0 rfl rfl [0, 3] rfl rfl rfl (Nat.le_of_ble_eq_true rfl) ⟨Nat.zero_le _, Nat.zero_le _⟩ dX7_passDay_17 ?_
  refine r_istore (lv' := [(5, .int y3), (4, .int y1), (3, .int v_this_frozen), (0, .ref a_this), (1, .ref a_p0), (2, .int x2)]) C dX7_passDay_20 (by decide) rfl ?_
  refine r_aload_n C dX7_passDay_22 rfl 4 rfl ?_
  refine r_iload C dX7_passDay_23 0 rfl ?_
  refine r_aload_n C dX7_passDay_25 rfl 3 rfl ?_
  obtain ⟨y5, hy6, hf⟩ := bd_some hf
  refine r_roV_i (As := []) (rest := [.int y3, .ref a_p0]) C (c_X7_isNight l D cyI cyZ cyW a_this v_this_date v_this_frozen a_this_healths a_this_favourers y5 hy6) gX7_passDay_X7_isNight rfl hyV_X7_isNight ⟨rfl, rfl, (Nat.le_of_ble_eq_true rfl), (Nat.le_of_ble_eq_true rfl)⟩ rfl 0 rfl rfl [0] rfl rfl rfl (Nat.le_of_ble_eq_true rfl) ⟨Nat.zero_le _, Nat.zero_le _⟩ dX7_passDay_26 ?_
  obtain ⟨y7, hy8, hf⟩ := bd_some hf
  refine r_roV_i (As := [.int y3, .int y5]) (rest := []) C (c_X5_isCarriedBy l D cyI cyZ cyW a_p0 v_p0_families v_p0_quota v_p0_coldCount a_p0_kinds a_p0_warmths a_p0_prices a_p0_favourers a_p0_colds v_p0_kinds y3 y5 y7 hy8) gX7_passDay_X5_isCarriedBy rfl hyV_X5_isCarriedBy ⟨rfl, rfl, (Nat.le_of_ble_eq_true rfl), (Nat.le_of_ble_eq_true rfl)⟩ rfl 1 rfl rfl [1, 4] rfl rfl rfl (Nat.le_of_ble_eq_true rfl) ⟨Nat.zero_le _, Nat.zero_le _⟩ dX7_passDay_29 ?_
  refine r_if_eq C 39 dX7_passDay_32 (by decide) hf (fun hf => ?_) (fun hf => ?_)
  · refine r_iconst C (-1) dX7_passDay_39 (by decide) ?_
    exact ST_lv [3, 4, 2, 1, 0] rfl (hb_40 v_this_frozen y1 y3 (-1) v_this_date v_this_frozen v_this_healths hf)
  · refine r_iload_n C dX7_passDay_35 rfl 5 rfl ?_
    refine r_goto C 40 dX7_passDay_36 (by decide) ?_
    exact ST_lv [3, 4, 2, 1, 0] rfl (hb_40 v_this_frozen y1 y3 x2 v_this_date v_this_frozen v_this_healths hf)

theorem lk_X7_healthOfAll_1 : Cond.fieldLink RX7 9 "ParishCoat$Winter" "healths" "[I" ∈ wsX7_healthOfAll := List.mem_of_getElem? (i := 1) rfl
theorem in_X7_healthOfAll_X7 : ∀ w ∈ u_ws RX7 TX7 4, w ∈ wsX7_healthOfAll := fun _ h => List.mem_cons_of_mem _ (List.mem_append_right _ h)
def f_X7_healthOfAll_s4 (v_this_healths : Nat → Int32) (k_4 : Int32 → Int32 → Option (Int32)) (x1 : Int32) (x2 : Int32) : Option (Int32) := if 7 ≤ x2 then (some (x1)) else (gd_ x2 7 (k_4 (x1 + (v_this_healths (Int32.toNatClampNeg x2))) (x2 + 1)))
def f_X7_healthOfAll_b4 (v_this_healths : Nat → Int32) (n : Nat) : Int32 → Int32 → Option (Int32) := it_ (f_X7_healthOfAll_s4 v_this_healths ) (fun _ _ => none) n
def f_X7_healthOfAll (v_this_healths : Nat → Int32) : Option (Int32) := f_X7_healthOfAll_b4 v_this_healths 5000 0 0
def w_X7_healthOfAll (cyI cyZ cyW : ClassId) (a_this : Nat) (v_this_date : Int32) (v_this_frozen : Int32) (a_this_healths : Nat) (a_this_favourers : Nat) (v_this_healths : Nat → Int32) : va_W := [(a_this, .inr (7, [.int v_this_date, .int v_this_frozen, .ref a_this_healths, .ref a_this_favourers])), (a_this_healths, .inl (cyI, 7, .inl v_this_healths))]
set_option maxHeartbeats 4000000 in
set_option maxRecDepth 100000 in
theorem c_X7_healthOfAll (l : Launch) (D : va_G) (cyI cyZ cyW : ClassId) (a_this : Nat) (v_this_date : Int32) (v_this_frozen : Int32) (a_this_healths : Nat) (a_this_favourers : Nat) (v_this_healths : Nat → Int32) (res : Int32) (hf : f_X7_healthOfAll v_this_healths = some res) : ∀ sz, Met l yX7_healthOfAll wsX7_healthOfAll { frames := 0, cells := 0, slots := 0, locals := 0 } (PCx D (tyG cyI cyZ cyW) [.ref a_this] (w_X7_healthOfAll cyI cyZ cyW a_this v_this_date v_this_frozen a_this_healths a_this_favourers v_this_healths) sz) (QI D (tyG cyI cyZ cyW) (w_X7_healthOfAll cyI cyZ cyW a_this v_this_date v_this_frozen a_this_healths a_this_favourers v_this_healths) sz res (w_X7_healthOfAll cyI cyZ cyW a_this v_this_date v_this_frozen a_this_healths a_this_favourers v_this_healths)) 0 0 (va_A (w_X7_healthOfAll cyI cyZ cyW a_this v_this_date v_this_frozen a_this_healths a_this_favourers v_this_healths) sz) := by
  intro sz
  refine met_of (cc := cX7_healthOfAll) (maxL := 3) (ret := (some .int)) (lv0 := [(0, .ref a_this)]) (by decide) rfl ⟨(Nat.le_of_ble_eq_true rfl), rfl⟩ ?_
  intro p e s m below meth c C hr hlk hnm hsz
  subst hsz
  have C : CX p s m _ c 3 cX7_healthOfAll RX7 wsX7_healthOfAll D (tyG cyI cyZ cyW) _ := C
  obtain ⟨Z, hZ⟩ : ∃ Z : va_W → Nat → LV → List Value → Prop, Z = ST p l e { frames := 0, cells := 0, slots := 0, locals := 0 } s m [.ref a_this].toArray below meth c 3 D (va_A (w_X7_healthOfAll cyI cyZ cyW a_this v_this_date v_this_frozen a_this_healths a_this_favourers v_this_healths) s.heap.size) (MQ below (QI D (tyG cyI cyZ cyW) (w_X7_healthOfAll cyI cyZ cyW a_this v_this_date v_this_frozen a_this_healths a_this_favourers v_this_healths) s.heap.size res (w_X7_healthOfAll cyI cyZ cyW a_this v_this_date v_this_frozen a_this_healths a_this_favourers v_this_healths)) [.ref a_this].toArray s 0 0 (va_A (w_X7_healthOfAll cyI cyZ cyW a_this v_this_date v_this_frozen a_this_healths a_this_favourers v_this_healths) s.heap.size)) 0 0 := ⟨_, rfl⟩
  have hs_4 : ∀ (k_4 : Int32 → Int32 → Option (Int32)), (∀ (x1 : Int32) (x2 : Int32), k_4 x1 x2 = some res → Z (w_X7_healthOfAll cyI cyZ cyW a_this v_this_date v_this_frozen a_this_healths a_this_favourers v_this_healths) 4 [(0, .ref a_this), (1, .int x1), (2, .int x2)] []) → ∀ (x1 : Int32) (x2 : Int32), f_X7_healthOfAll_s4 v_this_healths k_4 x1 x2 = some res → Z (w_X7_healthOfAll cyI cyZ cyW a_this v_this_date v_this_frozen a_this_healths a_this_favourers v_this_healths) 4 [(0, .ref a_this), (1, .int x1), (2, .int x2)] [] := by
    subst hZ
    intro k_4 hk_4 x1 x2 hf
    refine r_iload_n C dX7_healthOfAll_4 rfl 2 rfl ?_
    refine r_bipush C 7 dX7_healthOfAll_5 (by decide) ?_
    refine r_icmp_ge C 25 dX7_healthOfAll_7 (by decide) hf (fun hf => ?_) (fun hf => ?_)
    · refine r_iload_n C dX7_healthOfAll_25 rfl 1 rfl ?_
      rw [← Option.some.inj hf]
      exact r_iret C hr hlk dX7_healthOfAll_26
    · refine r_iload_n C dX7_healthOfAll_10 rfl 1 rfl ?_
      refine r_aload_n C dX7_healthOfAll_11 rfl 0 rfl ?_
      refine r_get C in_X7_healthOfAll_X7 0 rfl rfl 2 (by decide) lk_X7_healthOfAll_1 rfl rfl dX7_healthOfAll_12 ?_
      refine r_iload_n C dX7_healthOfAll_15 rfl 2 rfl ?_
      obtain ⟨hi1, hf⟩ := gd_some hf
      refine r_iald C 1 0 rfl rfl hi1 dX7_healthOfAll_16 ?_
      refine r_iadd C dX7_healthOfAll_17 ?_
      refine r_istore_n (lv' := [(1, .int (x1 + (v_this_healths (Int32.toNatClampNeg x2)))), (0, .ref a_this), (2, .int x2)]) C dX7_healthOfAll_18 rfl (by decide) rfl ?_
      refine r_iinc (v := 1) (k := 2) (lv' := [(2, .int (x2 + 1)), (1, .int (x1 + (v_this_healths (Int32.toNatClampNeg x2)))), (0, .ref a_this)]) C dX7_healthOfAll_19 rfl (by decide) (by decide) rfl ?_
      refine r_goto C 4 dX7_healthOfAll_22 (by decide) ?_
      exact ST_lv [2, 1, 0] rfl (hk_4 (x1 + (v_this_healths (Int32.toNatClampNeg x2))) (x2 + 1) hf)
  have hb_4 : ∀ (n : Nat) (x1 : Int32) (x2 : Int32), f_X7_healthOfAll_b4 v_this_healths n x1 x2 = some res → Z (w_X7_healthOfAll cyI cyZ cyW a_this v_this_date v_this_frozen a_this_healths a_this_favourers v_this_healths) 4 [(0, .ref a_this), (1, .int x1), (2, .int x2)] [] := by
    intro  n
    induction n with
    | zero => intro x1 x2 hf; exact nn_ hf
    | succ n ih => exact fun x1 x2 hf => hs_4 _ ih x1 x2 hf
  subst hZ
  refine r_iconst C 0 dX7_healthOfAll_0 (by decide) ?_
  refine r_istore_n (lv' := [(1, .int 0), (0, .ref a_this)]) C dX7_healthOfAll_1 rfl (by decide) rfl ?_
  refine r_iconst C 0 dX7_healthOfAll_2 (by decide) ?_
  refine r_istore_n (lv' := [(2, .int 0), (1, .int 0), (0, .ref a_this)]) C dX7_healthOfAll_3 rfl (by decide) rfl ?_
  exact ST_lv [2, 1, 0] rfl (hb_4 5000 0 0 hf)
