def bz_ {α : Type} (r : Int32) (k : Option α) : Option α := if r = 0 ∨ r = 1 then k else none
theorem bz_some {α : Type} {y : Int32} {k : Option α} {r : α} (h : bz_ y k = some r) : narrow .boolean (.int y) = .int y ∧ k = some r := by
  unfold bz_ at h
  split at h
  · rename_i hc
    refine ⟨?_, h⟩
    rcases hc with rfl | rfl <;> rfl
  · cases h
/-- the callee's new cells put at their places -/
def pickW (k : Nat) : List Nat → va_W → (Nat × va_E) → Nat × va_E
  | i :: is, x :: xs, d => bif Nat.beq k i then x else pickW k is xs d
  | _, _, d => d
def setW : Nat → va_W → List Nat → va_W → va_W
  | k, c :: cs, is, xs => pickW k is xs c :: setW (k + 1) cs is xs
  | _, [], _, _ => []
theorem setW_get (is : List Nat) (xs : va_W) : ∀ (ws : va_W) (n k : Nat), (setW n ws is xs)[k]? = (ws[k]?).map (pickW (n + k) is xs) := by
  intro ws
  induction ws with
  | nil => intro n k; simp [setW]
  | cons c cs ih =>
    intro n k
    cases k with
    | zero => simp [setW]
    | succ k =>
      simp only [setW, List.getElem?_cons_succ, ih]
      rw [show n + 1 + k = n + (k + 1) by omega]
theorem pickW_out {k : Nat} {d : Nat × va_E} (is : List Nat) : ∀ (xs : va_W), k ∉ is → pickW k is xs d = d := by
  induction is with
  | nil => intro xs _; cases xs <;> rfl
  | cons i is ih =>
    intro xs hk
    cases xs with
    | nil => rfl
    | cons x xs =>
      have h1 : Nat.beq k i = false := by
        cases hb : Nat.beq k i with
        | false => rfl
        | true => exact absurd (by rw [Nat.eq_of_beq_eq_true hb]; exact List.mem_cons_self) hk
      rw [pickW, h1]
      exact ih xs (fun h => hk (List.mem_cons_of_mem _ h))
theorem pickW_in {k : Nat} {d : Nat × va_E} (is : List Nat) : ∀ (j : Nat) (xs : va_W) (x : Nat × va_E), is.Nodup → is[j]? = some k → xs[j]? = some x → pickW k is xs d = x := by
  induction is with
  | nil => intro j xs x _ h; simp at h
  | cons i is ih =>
    intro j xs x hn h hx
    obtain ⟨hn1, hn2⟩ := List.nodup_cons.mp hn
    cases xs with
    | nil => simp at hx
    | cons y ys =>
      rw [pickW]
      cases j with
      | zero =>
        simp at h hx
        subst h; subst hx
        rw [show Nat.beq i i = true from Nat.beq_refl i]
        rfl
      | succ j =>
        have hk : k ∈ is := List.mem_of_getElem? (i := j) (by simpa using h)
        have h1 : Nat.beq k i = false := by
          cases hb : Nat.beq k i with
          | false => rfl
          | true => exact absurd (by rw [← Nat.eq_of_beq_eq_true hb]; exact hk) hn1
        rw [h1]
        exact ih j ys x hn2 (by simpa using h) (by simpa using hx)
theorem setAll_out {k : Nat} (is : List Nat) (ws xs : va_W) (hk : k ∉ is) : (setW 0 ws is xs)[k]? = ws[k]? := by
  rw [setW_get]
  cases h : ws[k]? with
  | none => rfl
  | some c => simp [pickW_out is xs hk]
theorem setAll_in {k : Nat} (is : List Nat) (j : Nat) (ws xs : va_W) (hn : is.Nodup) (h : is[j]? = some k) (hk : k < ws.length) (hj : j < xs.length) : (setW 0 ws is xs)[k]? = xs[j]? := by
  rw [setW_get, List.getElem?_eq_getElem hk, List.getElem?_eq_getElem hj]
  simp only [Option.map_some, Nat.zero_add]
  rw [pickW_in is j xs _ hn h (List.getElem?_eq_getElem hj)]
theorem world_upd {A0 : Nat → Prop} {D : va_G} {cl : List vw_C} {ws ws' wc w1 : va_W} {H H1 : Heap} (hP : va_P D cl ws H) (hD : va_D A0 ws) (isC : List Nat) (hnd : isC.Nodup) (hC : isC.map (fun i => ws[i]?) = wc.map some) (hadr : w1.map Prod.fst = wc.map Prod.fst) (hw : setW 0 ws isC w1 = ws')
    (hk : ∀ q : Nat, q < H.size → ¬ va_A wc H.size q → H1[q]? = H[q]?) (hP1 : va_P D cl w1 H1) : va_P D cl ws' H1 ∧ va_D A0 ws' := by
  subst hw
  have at' : ∀ (k : Nat) (q : Nat × va_E), wc[k]? = some q → ∃ i, isC[k]? = some i ∧ ws[i]? = some q := by
    intro k q hq
    have h1 : (isC.map (fun i => ws[i]?))[k]? = some (some q) := by rw [hC, List.getElem?_map, hq]; rfl
    rw [List.getElem?_map] at h1
    cases hi : isC[k]? with
    | none => rw [hi] at h1; cases h1
    | some i => rw [hi] at h1; exact ⟨i, rfl, Option.some.inj h1⟩
  have hl1 : isC.length = wc.length := by have := congrArg List.length hC; simpa using this
  have hl2 : w1.length = wc.length := by have := congrArg List.length hadr; simpa using this
  have inC : ∀ (k j : Nat), isC[j]? = some k → ∃ x y, (setW 0 ws isC w1)[k]? = some x ∧ w1[j]? = some x ∧ ws[k]? = some y ∧ x.1 = y.1 := by
    intro k j hj
    have hjl : j < isC.length := (List.getElem?_eq_some_iff.mp hj).1
    obtain ⟨y, hy⟩ : ∃ y, wc[j]? = some y := ⟨_, List.getElem?_eq_getElem (by omega)⟩
    obtain ⟨x, hx⟩ : ∃ x, w1[j]? = some x := ⟨_, List.getElem?_eq_getElem (by omega)⟩
    obtain ⟨i, h1, h2⟩ := at' j y hy
    rw [hj] at h1
    have := Option.some.inj h1
    subst this
    refine ⟨x, y, ?_, hx, h2, ?_⟩
    · rw [setAll_in isC j ws w1 hnd hj (List.getElem?_eq_some_iff.mp h2).1 (by omega), hx]
    · have h3 : (w1.map Prod.fst)[j]? = (wc.map Prod.fst)[j]? := by rw [hadr]
      rw [List.getElem?_map, List.getElem?_map, hx, hy] at h3
      exact Option.some.inj h3
  have adr : ∀ (k : Nat) (q : Nat × va_E), (setW 0 ws isC w1)[k]? = some q → ∃ p, ws[k]? = some p ∧ p.1 = q.1 := by
    intro k q hq
    by_cases hm : k ∈ isC
    · obtain ⟨j, hj⟩ := List.mem_iff_getElem?.mp hm
      obtain ⟨x, y, h1, h2, h3, h4⟩ := inC k j hj
      rw [hq] at h1
      have := Option.some.inj h1
      subst this
      exact ⟨y, h3, h4.symm⟩
    · rw [setAll_out isC ws w1 hm] at hq
      exact ⟨q, hq, rfl⟩
  refine ⟨fun k q hq => ?_, fun i j p q hp hq e => ?_, fun k q hq => ?_⟩
  · by_cases hm : k ∈ isC
    · obtain ⟨j, hj⟩ := List.mem_iff_getElem?.mp hm
      obtain ⟨x, y, h1, h2, h3, h4⟩ := inC k j hj
      rw [hq] at h1
      have := Option.some.inj h1
      subst this
      exact hP1 j _ h2
    · rw [setAll_out isC ws w1 hm] at hq
      refine (hP k q hq).kept (hk q.1 (hP k q hq).lt ?_)
      rintro (⟨k2, e, h3⟩ | h3)
      · obtain ⟨i, h4, h5⟩ := at' k2 (q.1, e) h3
        have := hD.1 k i q (q.1, e) hq h5 rfl
        subst this
        exact hm (List.mem_of_getElem? h4)
      · exact absurd (hP k q hq).lt (Nat.not_lt.mpr h3)
  · obtain ⟨p2, h1, h2⟩ := adr i p hp
    obtain ⟨q2, h3, h4⟩ := adr j q hq
    exact hD.1 i j p2 q2 h1 h3 (by rw [h2, h4]; exact e)
  · obtain ⟨p2, h1, h2⟩ := adr k q hq
    rw [← h2]
    exact hD.2 k p2 h1
theorem setAll_self {ws wc : va_W} (is : List Nat) (hn : is.Nodup) (hC : is.map (fun i => ws[i]?) = wc.map some) : setW 0 ws is wc = ws := by
  apply List.ext_getElem?
  intro k
  by_cases hm : k ∈ is
  · obtain ⟨j, hj⟩ := List.mem_iff_getElem?.mp hm
    have h1 : (is.map (fun i => ws[i]?))[j]? = some (ws[k]?) := by rw [List.getElem?_map, hj]; rfl
    rw [hC, List.getElem?_map] at h1
    cases hw : wc[j]? with
    | none => rw [hw] at h1; cases h1
    | some x =>
      rw [hw] at h1
      have h2 : ws[k]? = some x := (Option.some.inj h1).symm
      rw [setAll_in is j ws wc hn hj (List.getElem?_eq_some_iff.mp h2).1 (List.getElem?_eq_some_iff.mp hw).1, hw, h2]
  · exact setAll_out is ws wc hm
theorem nd_nodup {is : List Nat} (h : va_nd is = true) : is.Nodup := by
  induction is with
  | nil => exact List.nodup_nil
  | cons i is ih =>
    simp [va_nd] at h
    exact List.nodup_cons.mpr ⟨h.1, ih h.2⟩
theorem sub_of_map {D : va_G} {cl : List vw_C} {ws wc : va_W} {H : Heap} (hP : va_P D cl ws H) (isC : List Nat) (hC : isC.map (fun i => ws[i]?) = wc.map some) : va_P D cl wc H := by
  refine hP.sub isC ?_
  have : isC.filterMap (fun i => ws[i]?) = (isC.map (fun i => ws[i]?)).filterMap id := by rw [List.filterMap_map]; rfl
  rw [this, hC, List.filterMap_map]
  simp
section STC
variable {p : Program} {l : Launch} {e : Env} {R : Room} {s : State} {m : MethodId} {args : Array Value} {below : List Frame} {meth : Method} {c : Code} {nL : Nat} {cc : ByteArray} {own : String} {Ts : List Cond} {D : va_G} {tys : List (ClassId × FieldType)} {A : Nat → Prop} {Q : State → Prop} {cells slots : Nat} {ws : va_W} {pc : Nat} {lv : LV} {st : List Value} {w0 w1 : va_W}
theorem r_iret (C : CX p s m args c nL cc own Ts D tys (va_A w0 s.heap.size)) {r : Int32} (hr : meth.sig.returnType = some .int) (hk : meth.locks = false) (hd : decode cc pc = .ok (.ireturn, 1)) : ST p l e R s m args below meth c nL D (va_A w0 s.heap.size) (MQ below (QI D tys w0 s.heap.size r w1) args s cells slots (va_A w0 s.heap.size)) cells slots w1 pc lv [.int r] := fun H locs ls hP hD hS h => W.iret C.1 C.2.1 hr (fun t ht hW => ⟨⟨r, (), rfl, rfl, by rw [ht]; exact hP, va_K.moved hW.alike C.2.2.2.2.2.1, hD⟩, hS.F ht⟩) hS.2.2 hd hk
theorem r_zret (C : CX p s m args c nL cc own Ts D tys (va_A w0 s.heap.size)) {r : Int32} {ty : FieldType} (hr : meth.sig.returnType = some ty) (hk : meth.locks = false) (hn : narrow ty (.int r) = .int r) (hd : decode cc pc = .ok (.ireturn, 1)) : ST p l e R s m args below meth c nL D (va_A w0 s.heap.size) (MQ below (QI D tys w0 s.heap.size r w1) args s cells slots (va_A w0 s.heap.size)) cells slots w1 pc lv [.int r] := fun H locs ls hP hD hS h => W.zret C.1 C.2.1 hr hn (fun t ht hW => ⟨⟨r, (), rfl, rfl, by rw [ht]; exact hP, va_K.moved hW.alike C.2.2.2.2.2.1, hD⟩, hS.F ht⟩) hS.2.2 hd hk
theorem r_lret (C : CX p s m args c nL cc own Ts D tys (va_A w0 s.heap.size)) {r : Int64} (hr : meth.sig.returnType = some .long) (hk : meth.locks = false) (hd : decode cc pc = .ok (.lreturn, 1)) : ST p l e R s m args below meth c nL D (va_A w0 s.heap.size) (MQ below (QL D tys w0 s.heap.size r w1) args s cells slots (va_A w0 s.heap.size)) cells slots w1 pc lv [.long r] := fun H locs ls hP hD hS h => W.lret C.1 C.2.1 hr (fun t ht hW => ⟨⟨r, (), rfl, rfl, by rw [ht]; exact hP, va_K.moved hW.alike C.2.2.2.2.2.1, hD⟩, hS.F ht⟩) hS.2.2 hd hk
theorem r_vret (C : CX p s m args c nL cc own Ts D tys (va_A w0 s.heap.size)) (hr : meth.sig.returnType = none) (hk : meth.locks = false) (hd : decode cc pc = .ok (.return_, 1)) : ST p l e R s m args below meth c nL D (va_A w0 s.heap.size) (MQ below (QV D tys w0 s.heap.size w1) args s cells slots (va_A w0 s.heap.size)) cells slots w1 pc lv [] := fun H locs ls hP hD hS h => W.vret C.1 C.2.1 hr (fun t ht hW => ⟨⟨(), rfl, trivial, by rw [ht]; exact hP, va_K.moved hW.alike C.2.2.2.2.2.1, hD⟩, hS.F ht⟩) hS.2.2 hd hk
theorem r_callV_i (C : CX p s m args c nL cc own Ts D tys A) {y : MethodName} {wsC wsC' : List Cond} {bytes : ByteArray} {maxL n idx : Nat} {ret : Option FieldType} {rm : Room} {Cn : String} {b : Nat} {As rest : List Value} {wc wd ws' : va_W} {r : Int32} (hM : ∀ sz, Met l y wsC rm (PCx D tys (.ref b :: As) wc sz) (QI D tys wc sz r wd) 0 0 (va_A wc sz)) (hG : GoodIn Ts (wsV own idx Cn y wsC)) (hwc : wsC = Cond.code y bytes maxL ret :: wsC') (hy : y.cls = Cn ∧ y.cls ≠ "java/lang/invoke/MethodHandle" ∧ y.cls ≠ "java/lang/invoke/VarHandle" ∧ (parseMethodDescriptor y.desc).map (fun d => d.parameters.length) = some n) (hR : rm.cells = 0 ∧ rm.slots = 0 ∧ rm.frames + 1 ≤ R.frames ∧ 8 + (maxL + 11) + rm.locals ≤ R.locals) (hn : As.length = n) (q0 : Nat) {ci N : Nat} {T : u_T} {fs : List Value} (he : ws[q0]? = some (b, .inr (ci, fs))) (hcl : vwCl[ci]? = some (Cn, T, N)) (isC : List Nat) (hnd : va_nd isC = true) (hC : isC.map (fun i => ws[i]?) = wc.map some) (hadr : wd.map Prod.fst = wc.map Prod.fst) (hw' : setW 0 ws isC wd = ws') (hst : st = As.reverse ++ .ref b :: rest) (hcat : (rest.map fun v => v.category).sum ≤ 8) (hroom : cells ≤ R.cells ∧ slots ≤ R.slots) (hd : decode cc pc = .ok (.invokevirtual idx, 3)) (kk : ST p l e R s m args below meth c nL D A Q cells slots ws' (pc + 3) lv (.int r :: rest)) : ST p l e R s m args below meth c nL D A Q cells slots ws pc lv st := by
  intro H locs ls hP hD hS h
  subst hst
  have hFc := va_free hD hS C.2.2.2.2.2.2.2 isC hC
  exact va_calli (va_runV (As := As) (rest := rest) ⟨C.1, C.2.1, C.2.2.1, C.2.2.2.1, C.2.2.2.2.1⟩ (hM H.size) (cwV n C.2.2.2.2.1 hG hwc hR.1 hR.2.1 hy hR.2.2) ⟨PCx.blind, va_recv C.2.2.2.2.2.1 hP hcl he, PCx.go (av := .ref b :: As) (ws := ws) C.2.2.2.2.2.1 C.2.2.2.2.2.2.1 (sub_of_map hP isC hC) (hD.sub isC hnd hC)⟩ rfl hn h.1 rfl (lv_room hcat) hd ⟨hroom.1, hroom.2⟩) hS (fun q _ hq => hFc q hq) hFc (fun r1 u t H1 l1 ht hvm hw hB hz hk hS1 => by
    subst hw
    obtain ⟨hP1, hK1, hD1⟩ := hB
    rw [ht] at hP1
    obtain ⟨hP2, hD2⟩ := world_upd hP hD isC (nd_nodup hnd) hC hadr hw' hk hP1
    exact kk H1 l1 ls hP2 hD2 hS1 h)
theorem r_callV_l (C : CX p s m args c nL cc own Ts D tys A) {y : MethodName} {wsC wsC' : List Cond} {bytes : ByteArray} {maxL n idx : Nat} {ret : Option FieldType} {rm : Room} {Cn : String} {b : Nat} {As rest : List Value} {wc wd ws' : va_W} {r : Int64} (hM : ∀ sz, Met l y wsC rm (PCx D tys (.ref b :: As) wc sz) (QL D tys wc sz r wd) 0 0 (va_A wc sz)) (hG : GoodIn Ts (wsV own idx Cn y wsC)) (hwc : wsC = Cond.code y bytes maxL ret :: wsC') (hy : y.cls = Cn ∧ y.cls ≠ "java/lang/invoke/MethodHandle" ∧ y.cls ≠ "java/lang/invoke/VarHandle" ∧ (parseMethodDescriptor y.desc).map (fun d => d.parameters.length) = some n) (hR : rm.cells = 0 ∧ rm.slots = 0 ∧ rm.frames + 1 ≤ R.frames ∧ 8 + (maxL + 11) + rm.locals ≤ R.locals) (hn : As.length = n) (q0 : Nat) {ci N : Nat} {T : u_T} {fs : List Value} (he : ws[q0]? = some (b, .inr (ci, fs))) (hcl : vwCl[ci]? = some (Cn, T, N)) (isC : List Nat) (hnd : va_nd isC = true) (hC : isC.map (fun i => ws[i]?) = wc.map some) (hadr : wd.map Prod.fst = wc.map Prod.fst) (hw' : setW 0 ws isC wd = ws') (hst : st = As.reverse ++ .ref b :: rest) (hcat : (rest.map fun v => v.category).sum ≤ 8) (hroom : cells ≤ R.cells ∧ slots ≤ R.slots) (hd : decode cc pc = .ok (.invokevirtual idx, 3)) (kk : ST p l e R s m args below meth c nL D A Q cells slots ws' (pc + 3) lv (.long r :: rest)) : ST p l e R s m args below meth c nL D A Q cells slots ws pc lv st := by
  intro H locs ls hP hD hS h
  subst hst
  have hFc := va_free hD hS C.2.2.2.2.2.2.2 isC hC
  exact va_calll (va_runV (As := As) (rest := rest) ⟨C.1, C.2.1, C.2.2.1, C.2.2.2.1, C.2.2.2.2.1⟩ (hM H.size) (cwV n C.2.2.2.2.1 hG hwc hR.1 hR.2.1 hy hR.2.2) ⟨PCx.blind, va_recv C.2.2.2.2.2.1 hP hcl he, PCx.go (av := .ref b :: As) (ws := ws) C.2.2.2.2.2.1 C.2.2.2.2.2.2.1 (sub_of_map hP isC hC) (hD.sub isC hnd hC)⟩ rfl hn h.1 rfl (lv_room hcat) hd ⟨hroom.1, hroom.2⟩) hS (fun q _ hq => hFc q hq) hFc (fun r1 u t H1 l1 ht hvm hw hB hz hk hS1 => by
    subst hw
    obtain ⟨hP1, hK1, hD1⟩ := hB
    rw [ht] at hP1
    obtain ⟨hP2, hD2⟩ := world_upd hP hD isC (nd_nodup hnd) hC hadr hw' hk hP1
    exact kk H1 l1 ls hP2 hD2 hS1 h)
theorem r_callV_v (C : CX p s m args c nL cc own Ts D tys A) {y : MethodName} {wsC wsC' : List Cond} {bytes : ByteArray} {maxL n idx : Nat} {ret : Option FieldType} {rm : Room} {Cn : String} {b : Nat} {As rest : List Value} {wc wd ws' : va_W} (hM : ∀ sz, Met l y wsC rm (PCx D tys (.ref b :: As) wc sz) (QV D tys wc sz wd) 0 0 (va_A wc sz)) (hG : GoodIn Ts (wsV own idx Cn y wsC)) (hwc : wsC = Cond.code y bytes maxL ret :: wsC') (hy : y.cls = Cn ∧ y.cls ≠ "java/lang/invoke/MethodHandle" ∧ y.cls ≠ "java/lang/invoke/VarHandle" ∧ (parseMethodDescriptor y.desc).map (fun d => d.parameters.length) = some n) (hR : rm.cells = 0 ∧ rm.slots = 0 ∧ rm.frames + 1 ≤ R.frames ∧ 8 + (maxL + 11) + rm.locals ≤ R.locals) (hn : As.length = n) (q0 : Nat) {ci N : Nat} {T : u_T} {fs : List Value} (he : ws[q0]? = some (b, .inr (ci, fs))) (hcl : vwCl[ci]? = some (Cn, T, N)) (isC : List Nat) (hnd : va_nd isC = true) (hC : isC.map (fun i => ws[i]?) = wc.map some) (hadr : wd.map Prod.fst = wc.map Prod.fst) (hw' : setW 0 ws isC wd = ws') (hst : st = As.reverse ++ .ref b :: rest) (hcat : (rest.map fun v => v.category).sum ≤ 8) (hroom : cells ≤ R.cells ∧ slots ≤ R.slots) (hd : decode cc pc = .ok (.invokevirtual idx, 3)) (kk : ST p l e R s m args below meth c nL D A Q cells slots ws' (pc + 3) lv (rest)) : ST p l e R s m args below meth c nL D A Q cells slots ws pc lv st := by
  intro H locs ls hP hD hS h
  subst hst
  have hFc := va_free hD hS C.2.2.2.2.2.2.2 isC hC
  exact va_callv (va_runV (As := As) (rest := rest) ⟨C.1, C.2.1, C.2.2.1, C.2.2.2.1, C.2.2.2.2.1⟩ (hM H.size) (cwV n C.2.2.2.2.1 hG hwc hR.1 hR.2.1 hy hR.2.2) ⟨PCx.blind, va_recv C.2.2.2.2.2.1 hP hcl he, PCx.go (av := .ref b :: As) (ws := ws) C.2.2.2.2.2.1 C.2.2.2.2.2.2.1 (sub_of_map hP isC hC) (hD.sub isC hnd hC)⟩ rfl hn h.1 rfl (lv_room hcat) hd ⟨hroom.1, hroom.2⟩) hS (fun q _ hq => hFc q hq) hFc (fun u t H1 l1 ht hvm hw hB hz hk hS1 => by
    obtain ⟨hP1, hK1, hD1⟩ := hB
    rw [ht] at hP1
    obtain ⟨hP2, hD2⟩ := world_upd hP hD isC (nd_nodup hnd) hC hadr hw' hk hP1
    exact kk H1 l1 ls hP2 hD2 hS1 h)
theorem r_callS_i (C : CX p s m args c nL cc own Ts D tys A) {y : MethodName} {wsC wsC' : List Cond} {bytes : ByteArray} {maxL n idx : Nat} {ret : Option FieldType} {rm : Room} {As rest : List Value} {wc wd ws' : va_W} {r : Int32} (hM : ∀ sz, Met l y wsC rm (PCx D tys As wc sz) (QI D tys wc sz r wd) 0 0 (va_A wc sz)) (hG : GoodIn Ts (va_wsS own idx y wsC)) (hwc : wsC = Cond.code y bytes maxL ret :: wsC') (hy : y.cls ≠ "java/lang/invoke/MethodHandle" ∧ y.cls ≠ "java/lang/invoke/VarHandle" ∧ (parseMethodDescriptor y.desc).map (fun d => d.parameters.length) = some n) (hR : rm.cells = 0 ∧ rm.slots = 0 ∧ rm.frames + 1 ≤ R.frames ∧ 8 + (maxL + 11) + rm.locals ≤ R.locals) (hn : As.length = n) (isC : List Nat) (hnd : va_nd isC = true) (hC : isC.map (fun i => ws[i]?) = wc.map some) (hadr : wd.map Prod.fst = wc.map Prod.fst) (hw' : setW 0 ws isC wd = ws') (hst : st = As.reverse ++ rest) (hcat : (rest.map fun v => v.category).sum ≤ 8) (hroom : cells ≤ R.cells ∧ slots ≤ R.slots) (hd : decode cc pc = .ok (.invokestatic idx, 3)) (kk : ST p l e R s m args below meth c nL D A Q cells slots ws' (pc + 3) lv (.int r :: rest)) : ST p l e R s m args below meth c nL D A Q cells slots ws pc lv st := by
  intro H locs ls hP hD hS h
  subst hst
  have hFc := va_free hD hS C.2.2.2.2.2.2.2 isC hC
  exact va_calli (va_runS (As := As) (rest := rest) ⟨C.1, C.2.1, C.2.2.1, C.2.2.2.1, C.2.2.2.2.1⟩ (hM H.size) (va_cwS n C.2.2.2.2.1 hG hwc hR.1 hR.2.1 hy hR.2.2) ⟨PCx.blind, PCx.go (av := As) (ws := ws) C.2.2.2.2.2.1 C.2.2.2.2.2.2.1 (sub_of_map hP isC hC) (hD.sub isC hnd hC)⟩ rfl hn h.1 rfl (lv_room hcat) hd ⟨hroom.1, hroom.2⟩) hS (fun q _ hq => hFc q hq) hFc (fun r1 u t H1 l1 ht hvm hw hB hz hk hS1 => by
    subst hw
    obtain ⟨hP1, hK1, hD1⟩ := hB
    rw [ht] at hP1
    obtain ⟨hP2, hD2⟩ := world_upd hP hD isC (nd_nodup hnd) hC hadr hw' hk hP1
    exact kk H1 l1 ls hP2 hD2 hS1 h)
theorem r_callS_l (C : CX p s m args c nL cc own Ts D tys A) {y : MethodName} {wsC wsC' : List Cond} {bytes : ByteArray} {maxL n idx : Nat} {ret : Option FieldType} {rm : Room} {As rest : List Value} {wc wd ws' : va_W} {r : Int64} (hM : ∀ sz, Met l y wsC rm (PCx D tys As wc sz) (QL D tys wc sz r wd) 0 0 (va_A wc sz)) (hG : GoodIn Ts (va_wsS own idx y wsC)) (hwc : wsC = Cond.code y bytes maxL ret :: wsC') (hy : y.cls ≠ "java/lang/invoke/MethodHandle" ∧ y.cls ≠ "java/lang/invoke/VarHandle" ∧ (parseMethodDescriptor y.desc).map (fun d => d.parameters.length) = some n) (hR : rm.cells = 0 ∧ rm.slots = 0 ∧ rm.frames + 1 ≤ R.frames ∧ 8 + (maxL + 11) + rm.locals ≤ R.locals) (hn : As.length = n) (isC : List Nat) (hnd : va_nd isC = true) (hC : isC.map (fun i => ws[i]?) = wc.map some) (hadr : wd.map Prod.fst = wc.map Prod.fst) (hw' : setW 0 ws isC wd = ws') (hst : st = As.reverse ++ rest) (hcat : (rest.map fun v => v.category).sum ≤ 8) (hroom : cells ≤ R.cells ∧ slots ≤ R.slots) (hd : decode cc pc = .ok (.invokestatic idx, 3)) (kk : ST p l e R s m args below meth c nL D A Q cells slots ws' (pc + 3) lv (.long r :: rest)) : ST p l e R s m args below meth c nL D A Q cells slots ws pc lv st := by
  intro H locs ls hP hD hS h
  subst hst
  have hFc := va_free hD hS C.2.2.2.2.2.2.2 isC hC
  exact va_calll (va_runS (As := As) (rest := rest) ⟨C.1, C.2.1, C.2.2.1, C.2.2.2.1, C.2.2.2.2.1⟩ (hM H.size) (va_cwS n C.2.2.2.2.1 hG hwc hR.1 hR.2.1 hy hR.2.2) ⟨PCx.blind, PCx.go (av := As) (ws := ws) C.2.2.2.2.2.1 C.2.2.2.2.2.2.1 (sub_of_map hP isC hC) (hD.sub isC hnd hC)⟩ rfl hn h.1 rfl (lv_room hcat) hd ⟨hroom.1, hroom.2⟩) hS (fun q _ hq => hFc q hq) hFc (fun r1 u t H1 l1 ht hvm hw hB hz hk hS1 => by
    subst hw
    obtain ⟨hP1, hK1, hD1⟩ := hB
    rw [ht] at hP1
    obtain ⟨hP2, hD2⟩ := world_upd hP hD isC (nd_nodup hnd) hC hadr hw' hk hP1
    exact kk H1 l1 ls hP2 hD2 hS1 h)
theorem r_callS_v (C : CX p s m args c nL cc own Ts D tys A) {y : MethodName} {wsC wsC' : List Cond} {bytes : ByteArray} {maxL n idx : Nat} {ret : Option FieldType} {rm : Room} {As rest : List Value} {wc wd ws' : va_W} (hM : ∀ sz, Met l y wsC rm (PCx D tys As wc sz) (QV D tys wc sz wd) 0 0 (va_A wc sz)) (hG : GoodIn Ts (va_wsS own idx y wsC)) (hwc : wsC = Cond.code y bytes maxL ret :: wsC') (hy : y.cls ≠ "java/lang/invoke/MethodHandle" ∧ y.cls ≠ "java/lang/invoke/VarHandle" ∧ (parseMethodDescriptor y.desc).map (fun d => d.parameters.length) = some n) (hR : rm.cells = 0 ∧ rm.slots = 0 ∧ rm.frames + 1 ≤ R.frames ∧ 8 + (maxL + 11) + rm.locals ≤ R.locals) (hn : As.length = n) (isC : List Nat) (hnd : va_nd isC = true) (hC : isC.map (fun i => ws[i]?) = wc.map some) (hadr : wd.map Prod.fst = wc.map Prod.fst) (hw' : setW 0 ws isC wd = ws') (hst : st = As.reverse ++ rest) (hcat : (rest.map fun v => v.category).sum ≤ 8) (hroom : cells ≤ R.cells ∧ slots ≤ R.slots) (hd : decode cc pc = .ok (.invokestatic idx, 3)) (kk : ST p l e R s m args below meth c nL D A Q cells slots ws' (pc + 3) lv (rest)) : ST p l e R s m args below meth c nL D A Q cells slots ws pc lv st := by
  intro H locs ls hP hD hS h
  subst hst
  have hFc := va_free hD hS C.2.2.2.2.2.2.2 isC hC
  exact va_callv (va_runS (As := As) (rest := rest) ⟨C.1, C.2.1, C.2.2.1, C.2.2.2.1, C.2.2.2.2.1⟩ (hM H.size) (va_cwS n C.2.2.2.2.1 hG hwc hR.1 hR.2.1 hy hR.2.2) ⟨PCx.blind, PCx.go (av := As) (ws := ws) C.2.2.2.2.2.1 C.2.2.2.2.2.2.1 (sub_of_map hP isC hC) (hD.sub isC hnd hC)⟩ rfl hn h.1 rfl (lv_room hcat) hd ⟨hroom.1, hroom.2⟩) hS (fun q _ hq => hFc q hq) hFc (fun u t H1 l1 ht hvm hw hB hz hk hS1 => by
    obtain ⟨hP1, hK1, hD1⟩ := hB
    rw [ht] at hP1
    obtain ⟨hP2, hD2⟩ := world_upd hP hD isC (nd_nodup hnd) hC hadr hw' hk hP1
    exact kk H1 l1 ls hP2 hD2 hS1 h)
theorem r_callSN_i (C : CX p s m args c nL cc own Ts D tys A) {y : MethodName} {wsC wsC' : List Cond} {bytes : ByteArray} {maxL n idx : Nat} {ret : Option FieldType} {rm : Room} {As rest : List Value} {wc wd ws' : va_W} {r : Int32} (hM : ∀ sz, Met l y wsC rm (PCx D tys As wc sz) (QI D tys wc sz r wd) 0 0 (va_A wc sz)) (hG : GoodIn Ts wsC) (kn : Nat) (hnw : nwL[kn]? = some (own, idx, y)) (hini : Cond.initialized y.cls ∈ Ts) (hstt : Cond.static y ∈ Ts) (hwc : wsC = Cond.code y bytes maxL ret :: wsC') (hy : y.cls ≠ "java/lang/invoke/MethodHandle" ∧ y.cls ≠ "java/lang/invoke/VarHandle" ∧ (parseMethodDescriptor y.desc).map (fun d => d.parameters.length) = some n) (hR : rm.cells = 0 ∧ rm.slots = 0 ∧ rm.frames + 1 ≤ R.frames ∧ 8 + (maxL + 11) + rm.locals ≤ R.locals) (hn : As.length = n) (isC : List Nat) (hnd : va_nd isC = true) (hC : isC.map (fun i => ws[i]?) = wc.map some) (hadr : wd.map Prod.fst = wc.map Prod.fst) (hw' : setW 0 ws isC wd = ws') (hst : st = As.reverse ++ rest) (hcat : (rest.map fun v => v.category).sum ≤ 8) (hroom : cells ≤ R.cells ∧ slots ≤ R.slots) (hd : decode cc pc = .ok (.invokestatic idx, 3)) (kk : ST p l e R s m args below meth c nL D A Q cells slots ws' (pc + 3) lv (.int r :: rest)) : ST p l e R s m args below meth c nL D A Q cells slots ws pc lv st := by
  intro H locs ls hP hD hS h
  subst hst
  have hFc := va_free hD hS C.2.2.2.2.2.2.2 isC hC
  exact va_calli (va_runSN (As := As) (rest := rest) ⟨C.1, C.2.1, C.2.2.1, C.2.2.2.1, C.2.2.2.2.1⟩ (hM H.size) ⟨va_cnB n C.2.2.2.2.1 hG hwc hR.1 hR.2.1 (C.2.2.2.2.2.2.1.at kn hnw) (C.2.2.2.2.1 _ hini) hy hR.2.2, C.2.2.2.2.1 _ hstt, trivial⟩ ⟨PCx.blind, PCx.go (av := As) (ws := ws) C.2.2.2.2.2.1 C.2.2.2.2.2.2.1 (sub_of_map hP isC hC) (hD.sub isC hnd hC)⟩ rfl hn h.1 rfl (lv_room hcat) hd ⟨hroom.1, hroom.2⟩) hS (fun q _ hq => hFc q hq) hFc (fun r1 u t H1 l1 ht hvm hw hB hz hk hS1 => by
    subst hw
    obtain ⟨hP1, hK1, hD1⟩ := hB
    rw [ht] at hP1
    obtain ⟨hP2, hD2⟩ := world_upd hP hD isC (nd_nodup hnd) hC hadr hw' hk hP1
    exact kk H1 l1 ls hP2 hD2 hS1 h)
theorem r_callSN_l (C : CX p s m args c nL cc own Ts D tys A) {y : MethodName} {wsC wsC' : List Cond} {bytes : ByteArray} {maxL n idx : Nat} {ret : Option FieldType} {rm : Room} {As rest : List Value} {wc wd ws' : va_W} {r : Int64} (hM : ∀ sz, Met l y wsC rm (PCx D tys As wc sz) (QL D tys wc sz r wd) 0 0 (va_A wc sz)) (hG : GoodIn Ts wsC) (kn : Nat) (hnw : nwL[kn]? = some (own, idx, y)) (hini : Cond.initialized y.cls ∈ Ts) (hstt : Cond.static y ∈ Ts) (hwc : wsC = Cond.code y bytes maxL ret :: wsC') (hy : y.cls ≠ "java/lang/invoke/MethodHandle" ∧ y.cls ≠ "java/lang/invoke/VarHandle" ∧ (parseMethodDescriptor y.desc).map (fun d => d.parameters.length) = some n) (hR : rm.cells = 0 ∧ rm.slots = 0 ∧ rm.frames + 1 ≤ R.frames ∧ 8 + (maxL + 11) + rm.locals ≤ R.locals) (hn : As.length = n) (isC : List Nat) (hnd : va_nd isC = true) (hC : isC.map (fun i => ws[i]?) = wc.map some) (hadr : wd.map Prod.fst = wc.map Prod.fst) (hw' : setW 0 ws isC wd = ws') (hst : st = As.reverse ++ rest) (hcat : (rest.map fun v => v.category).sum ≤ 8) (hroom : cells ≤ R.cells ∧ slots ≤ R.slots) (hd : decode cc pc = .ok (.invokestatic idx, 3)) (kk : ST p l e R s m args below meth c nL D A Q cells slots ws' (pc + 3) lv (.long r :: rest)) : ST p l e R s m args below meth c nL D A Q cells slots ws pc lv st := by
  intro H locs ls hP hD hS h
  subst hst
  have hFc := va_free hD hS C.2.2.2.2.2.2.2 isC hC
  exact va_calll (va_runSN (As := As) (rest := rest) ⟨C.1, C.2.1, C.2.2.1, C.2.2.2.1, C.2.2.2.2.1⟩ (hM H.size) ⟨va_cnB n C.2.2.2.2.1 hG hwc hR.1 hR.2.1 (C.2.2.2.2.2.2.1.at kn hnw) (C.2.2.2.2.1 _ hini) hy hR.2.2, C.2.2.2.2.1 _ hstt, trivial⟩ ⟨PCx.blind, PCx.go (av := As) (ws := ws) C.2.2.2.2.2.1 C.2.2.2.2.2.2.1 (sub_of_map hP isC hC) (hD.sub isC hnd hC)⟩ rfl hn h.1 rfl (lv_room hcat) hd ⟨hroom.1, hroom.2⟩) hS (fun q _ hq => hFc q hq) hFc (fun r1 u t H1 l1 ht hvm hw hB hz hk hS1 => by
    subst hw
    obtain ⟨hP1, hK1, hD1⟩ := hB
    rw [ht] at hP1
    obtain ⟨hP2, hD2⟩ := world_upd hP hD isC (nd_nodup hnd) hC hadr hw' hk hP1
    exact kk H1 l1 ls hP2 hD2 hS1 h)
theorem r_callSN_v (C : CX p s m args c nL cc own Ts D tys A) {y : MethodName} {wsC wsC' : List Cond} {bytes : ByteArray} {maxL n idx : Nat} {ret : Option FieldType} {rm : Room} {As rest : List Value} {wc wd ws' : va_W} (hM : ∀ sz, Met l y wsC rm (PCx D tys As wc sz) (QV D tys wc sz wd) 0 0 (va_A wc sz)) (hG : GoodIn Ts wsC) (kn : Nat) (hnw : nwL[kn]? = some (own, idx, y)) (hini : Cond.initialized y.cls ∈ Ts) (hstt : Cond.static y ∈ Ts) (hwc : wsC = Cond.code y bytes maxL ret :: wsC') (hy : y.cls ≠ "java/lang/invoke/MethodHandle" ∧ y.cls ≠ "java/lang/invoke/VarHandle" ∧ (parseMethodDescriptor y.desc).map (fun d => d.parameters.length) = some n) (hR : rm.cells = 0 ∧ rm.slots = 0 ∧ rm.frames + 1 ≤ R.frames ∧ 8 + (maxL + 11) + rm.locals ≤ R.locals) (hn : As.length = n) (isC : List Nat) (hnd : va_nd isC = true) (hC : isC.map (fun i => ws[i]?) = wc.map some) (hadr : wd.map Prod.fst = wc.map Prod.fst) (hw' : setW 0 ws isC wd = ws') (hst : st = As.reverse ++ rest) (hcat : (rest.map fun v => v.category).sum ≤ 8) (hroom : cells ≤ R.cells ∧ slots ≤ R.slots) (hd : decode cc pc = .ok (.invokestatic idx, 3)) (kk : ST p l e R s m args below meth c nL D A Q cells slots ws' (pc + 3) lv (rest)) : ST p l e R s m args below meth c nL D A Q cells slots ws pc lv st := by
  intro H locs ls hP hD hS h
  subst hst
  have hFc := va_free hD hS C.2.2.2.2.2.2.2 isC hC
  exact va_callv (va_runSN (As := As) (rest := rest) ⟨C.1, C.2.1, C.2.2.1, C.2.2.2.1, C.2.2.2.2.1⟩ (hM H.size) ⟨va_cnB n C.2.2.2.2.1 hG hwc hR.1 hR.2.1 (C.2.2.2.2.2.2.1.at kn hnw) (C.2.2.2.2.1 _ hini) hy hR.2.2, C.2.2.2.2.1 _ hstt, trivial⟩ ⟨PCx.blind, PCx.go (av := As) (ws := ws) C.2.2.2.2.2.1 C.2.2.2.2.2.2.1 (sub_of_map hP isC hC) (hD.sub isC hnd hC)⟩ rfl hn h.1 rfl (lv_room hcat) hd ⟨hroom.1, hroom.2⟩) hS (fun q _ hq => hFc q hq) hFc (fun u t H1 l1 ht hvm hw hB hz hk hS1 => by
    obtain ⟨hP1, hK1, hD1⟩ := hB
    rw [ht] at hP1
    obtain ⟨hP2, hD2⟩ := world_upd hP hD isC (nd_nodup hnd) hC hadr hw' hk hP1
    exact kk H1 l1 ls hP2 hD2 hS1 h)
theorem r_roV_i (C : CX p s m args c nL cc own Ts D tys A) {y : MethodName} {wsC wsC' : List Cond} {bytes : ByteArray} {maxL n idx : Nat} {ret : Option FieldType} {rm : Room} {Cn : String} {b : Nat} {As rest : List Value} {wc : va_W} {r : Int32} (hM : ∀ sz, Met l y wsC rm (PCx D tys (.ref b :: As) wc sz) (QI D tys wc sz r wc) 0 0 (va_A wc sz)) (hG : GoodIn Ts (wsV own idx Cn y wsC)) (hwc : wsC = Cond.code y bytes maxL ret :: wsC') (hy : y.cls = Cn ∧ y.cls ≠ "java/lang/invoke/MethodHandle" ∧ y.cls ≠ "java/lang/invoke/VarHandle" ∧ (parseMethodDescriptor y.desc).map (fun d => d.parameters.length) = some n) (hR : rm.cells = 0 ∧ rm.slots = 0 ∧ rm.frames + 1 ≤ R.frames ∧ 8 + (maxL + 11) + rm.locals ≤ R.locals) (hn : As.length = n) (q0 : Nat) {ci N : Nat} {T : u_T} {fs : List Value} (he : ws[q0]? = some (b, .inr (ci, fs))) (hcl : vwCl[ci]? = some (Cn, T, N)) (isC : List Nat) (hnd : va_nd isC = true) (hC : isC.map (fun i => ws[i]?) = wc.map some) (hst : st = As.reverse ++ .ref b :: rest) (hcat : (rest.map fun v => v.category).sum ≤ 8) (hroom : cells ≤ R.cells ∧ slots ≤ R.slots) (hd : decode cc pc = .ok (.invokevirtual idx, 3)) (kk : ST p l e R s m args below meth c nL D A Q cells slots ws (pc + 3) lv (.int r :: rest)) : ST p l e R s m args below meth c nL D A Q cells slots ws pc lv st := by
  intro H locs ls hP hD hS h
  subst hst
  have hFc := va_free hD hS C.2.2.2.2.2.2.2 isC hC
  exact va_calli (va_runV (As := As) (rest := rest) ⟨C.1, C.2.1, C.2.2.1, C.2.2.2.1, C.2.2.2.2.1⟩ (hM H.size) (cwV n C.2.2.2.2.1 hG hwc hR.1 hR.2.1 hy hR.2.2) ⟨PCx.blind, va_recv C.2.2.2.2.2.1 hP hcl he, PCx.go (av := .ref b :: As) (ws := ws) C.2.2.2.2.2.1 C.2.2.2.2.2.2.1 (sub_of_map hP isC hC) (hD.sub isC hnd hC)⟩ rfl hn h.1 rfl (lv_room hcat) hd ⟨hroom.1, hroom.2⟩) hS (fun q _ hq => hFc q hq) hFc (fun r1 u t H1 l1 ht hvm hw hB hz hk hS1 => by
    subst hw
    obtain ⟨hP1, hK1, hD1⟩ := hB
    rw [ht] at hP1
    obtain ⟨hP2, hD2⟩ := world_upd hP hD isC (nd_nodup hnd) hC rfl (setAll_self isC (nd_nodup hnd) hC) hk hP1
    exact kk H1 l1 ls hP2 hD2 hS1 h)
theorem r_roV_l (C : CX p s m args c nL cc own Ts D tys A) {y : MethodName} {wsC wsC' : List Cond} {bytes : ByteArray} {maxL n idx : Nat} {ret : Option FieldType} {rm : Room} {Cn : String} {b : Nat} {As rest : List Value} {wc : va_W} {r : Int64} (hM : ∀ sz, Met l y wsC rm (PCx D tys (.ref b :: As) wc sz) (QL D tys wc sz r wc) 0 0 (va_A wc sz)) (hG : GoodIn Ts (wsV own idx Cn y wsC)) (hwc : wsC = Cond.code y bytes maxL ret :: wsC') (hy : y.cls = Cn ∧ y.cls ≠ "java/lang/invoke/MethodHandle" ∧ y.cls ≠ "java/lang/invoke/VarHandle" ∧ (parseMethodDescriptor y.desc).map (fun d => d.parameters.length) = some n) (hR : rm.cells = 0 ∧ rm.slots = 0 ∧ rm.frames + 1 ≤ R.frames ∧ 8 + (maxL + 11) + rm.locals ≤ R.locals) (hn : As.length = n) (q0 : Nat) {ci N : Nat} {T : u_T} {fs : List Value} (he : ws[q0]? = some (b, .inr (ci, fs))) (hcl : vwCl[ci]? = some (Cn, T, N)) (isC : List Nat) (hnd : va_nd isC = true) (hC : isC.map (fun i => ws[i]?) = wc.map some) (hst : st = As.reverse ++ .ref b :: rest) (hcat : (rest.map fun v => v.category).sum ≤ 8) (hroom : cells ≤ R.cells ∧ slots ≤ R.slots) (hd : decode cc pc = .ok (.invokevirtual idx, 3)) (kk : ST p l e R s m args below meth c nL D A Q cells slots ws (pc + 3) lv (.long r :: rest)) : ST p l e R s m args below meth c nL D A Q cells slots ws pc lv st := by
  intro H locs ls hP hD hS h
  subst hst
  have hFc := va_free hD hS C.2.2.2.2.2.2.2 isC hC
  exact va_calll (va_runV (As := As) (rest := rest) ⟨C.1, C.2.1, C.2.2.1, C.2.2.2.1, C.2.2.2.2.1⟩ (hM H.size) (cwV n C.2.2.2.2.1 hG hwc hR.1 hR.2.1 hy hR.2.2) ⟨PCx.blind, va_recv C.2.2.2.2.2.1 hP hcl he, PCx.go (av := .ref b :: As) (ws := ws) C.2.2.2.2.2.1 C.2.2.2.2.2.2.1 (sub_of_map hP isC hC) (hD.sub isC hnd hC)⟩ rfl hn h.1 rfl (lv_room hcat) hd ⟨hroom.1, hroom.2⟩) hS (fun q _ hq => hFc q hq) hFc (fun r1 u t H1 l1 ht hvm hw hB hz hk hS1 => by
    subst hw
    obtain ⟨hP1, hK1, hD1⟩ := hB
    rw [ht] at hP1
    obtain ⟨hP2, hD2⟩ := world_upd hP hD isC (nd_nodup hnd) hC rfl (setAll_self isC (nd_nodup hnd) hC) hk hP1
    exact kk H1 l1 ls hP2 hD2 hS1 h)
theorem r_roV_v (C : CX p s m args c nL cc own Ts D tys A) {y : MethodName} {wsC wsC' : List Cond} {bytes : ByteArray} {maxL n idx : Nat} {ret : Option FieldType} {rm : Room} {Cn : String} {b : Nat} {As rest : List Value} {wc : va_W} (hM : ∀ sz, Met l y wsC rm (PCx D tys (.ref b :: As) wc sz) (QV D tys wc sz wc) 0 0 (va_A wc sz)) (hG : GoodIn Ts (wsV own idx Cn y wsC)) (hwc : wsC = Cond.code y bytes maxL ret :: wsC') (hy : y.cls = Cn ∧ y.cls ≠ "java/lang/invoke/MethodHandle" ∧ y.cls ≠ "java/lang/invoke/VarHandle" ∧ (parseMethodDescriptor y.desc).map (fun d => d.parameters.length) = some n) (hR : rm.cells = 0 ∧ rm.slots = 0 ∧ rm.frames + 1 ≤ R.frames ∧ 8 + (maxL + 11) + rm.locals ≤ R.locals) (hn : As.length = n) (q0 : Nat) {ci N : Nat} {T : u_T} {fs : List Value} (he : ws[q0]? = some (b, .inr (ci, fs))) (hcl : vwCl[ci]? = some (Cn, T, N)) (isC : List Nat) (hnd : va_nd isC = true) (hC : isC.map (fun i => ws[i]?) = wc.map some) (hst : st = As.reverse ++ .ref b :: rest) (hcat : (rest.map fun v => v.category).sum ≤ 8) (hroom : cells ≤ R.cells ∧ slots ≤ R.slots) (hd : decode cc pc = .ok (.invokevirtual idx, 3)) (kk : ST p l e R s m args below meth c nL D A Q cells slots ws (pc + 3) lv (rest)) : ST p l e R s m args below meth c nL D A Q cells slots ws pc lv st := by
  intro H locs ls hP hD hS h
  subst hst
  have hFc := va_free hD hS C.2.2.2.2.2.2.2 isC hC
  exact va_callv (va_runV (As := As) (rest := rest) ⟨C.1, C.2.1, C.2.2.1, C.2.2.2.1, C.2.2.2.2.1⟩ (hM H.size) (cwV n C.2.2.2.2.1 hG hwc hR.1 hR.2.1 hy hR.2.2) ⟨PCx.blind, va_recv C.2.2.2.2.2.1 hP hcl he, PCx.go (av := .ref b :: As) (ws := ws) C.2.2.2.2.2.1 C.2.2.2.2.2.2.1 (sub_of_map hP isC hC) (hD.sub isC hnd hC)⟩ rfl hn h.1 rfl (lv_room hcat) hd ⟨hroom.1, hroom.2⟩) hS (fun q _ hq => hFc q hq) hFc (fun u t H1 l1 ht hvm hw hB hz hk hS1 => by
    obtain ⟨hP1, hK1, hD1⟩ := hB
    rw [ht] at hP1
    obtain ⟨hP2, hD2⟩ := world_upd hP hD isC (nd_nodup hnd) hC rfl (setAll_self isC (nd_nodup hnd) hC) hk hP1
    exact kk H1 l1 ls hP2 hD2 hS1 h)
theorem r_roS_i (C : CX p s m args c nL cc own Ts D tys A) {y : MethodName} {wsC wsC' : List Cond} {bytes : ByteArray} {maxL n idx : Nat} {ret : Option FieldType} {rm : Room} {As rest : List Value} {wc : va_W} {r : Int32} (hM : ∀ sz, Met l y wsC rm (PCx D tys As wc sz) (QI D tys wc sz r wc) 0 0 (va_A wc sz)) (hG : GoodIn Ts (va_wsS own idx y wsC)) (hwc : wsC = Cond.code y bytes maxL ret :: wsC') (hy : y.cls ≠ "java/lang/invoke/MethodHandle" ∧ y.cls ≠ "java/lang/invoke/VarHandle" ∧ (parseMethodDescriptor y.desc).map (fun d => d.parameters.length) = some n) (hR : rm.cells = 0 ∧ rm.slots = 0 ∧ rm.frames + 1 ≤ R.frames ∧ 8 + (maxL + 11) + rm.locals ≤ R.locals) (hn : As.length = n) (isC : List Nat) (hnd : va_nd isC = true) (hC : isC.map (fun i => ws[i]?) = wc.map some) (hst : st = As.reverse ++ rest) (hcat : (rest.map fun v => v.category).sum ≤ 8) (hroom : cells ≤ R.cells ∧ slots ≤ R.slots) (hd : decode cc pc = .ok (.invokestatic idx, 3)) (kk : ST p l e R s m args below meth c nL D A Q cells slots ws (pc + 3) lv (.int r :: rest)) : ST p l e R s m args below meth c nL D A Q cells slots ws pc lv st := by
  intro H locs ls hP hD hS h
  subst hst
  have hFc := va_free hD hS C.2.2.2.2.2.2.2 isC hC
  exact va_calli (va_runS (As := As) (rest := rest) ⟨C.1, C.2.1, C.2.2.1, C.2.2.2.1, C.2.2.2.2.1⟩ (hM H.size) (va_cwS n C.2.2.2.2.1 hG hwc hR.1 hR.2.1 hy hR.2.2) ⟨PCx.blind, PCx.go (av := As) (ws := ws) C.2.2.2.2.2.1 C.2.2.2.2.2.2.1 (sub_of_map hP isC hC) (hD.sub isC hnd hC)⟩ rfl hn h.1 rfl (lv_room hcat) hd ⟨hroom.1, hroom.2⟩) hS (fun q _ hq => hFc q hq) hFc (fun r1 u t H1 l1 ht hvm hw hB hz hk hS1 => by
    subst hw
    obtain ⟨hP1, hK1, hD1⟩ := hB
    rw [ht] at hP1
    obtain ⟨hP2, hD2⟩ := world_upd hP hD isC (nd_nodup hnd) hC rfl (setAll_self isC (nd_nodup hnd) hC) hk hP1
    exact kk H1 l1 ls hP2 hD2 hS1 h)
theorem r_roS_l (C : CX p s m args c nL cc own Ts D tys A) {y : MethodName} {wsC wsC' : List Cond} {bytes : ByteArray} {maxL n idx : Nat} {ret : Option FieldType} {rm : Room} {As rest : List Value} {wc : va_W} {r : Int64} (hM : ∀ sz, Met l y wsC rm (PCx D tys As wc sz) (QL D tys wc sz r wc) 0 0 (va_A wc sz)) (hG : GoodIn Ts (va_wsS own idx y wsC)) (hwc : wsC = Cond.code y bytes maxL ret :: wsC') (hy : y.cls ≠ "java/lang/invoke/MethodHandle" ∧ y.cls ≠ "java/lang/invoke/VarHandle" ∧ (parseMethodDescriptor y.desc).map (fun d => d.parameters.length) = some n) (hR : rm.cells = 0 ∧ rm.slots = 0 ∧ rm.frames + 1 ≤ R.frames ∧ 8 + (maxL + 11) + rm.locals ≤ R.locals) (hn : As.length = n) (isC : List Nat) (hnd : va_nd isC = true) (hC : isC.map (fun i => ws[i]?) = wc.map some) (hst : st = As.reverse ++ rest) (hcat : (rest.map fun v => v.category).sum ≤ 8) (hroom : cells ≤ R.cells ∧ slots ≤ R.slots) (hd : decode cc pc = .ok (.invokestatic idx, 3)) (kk : ST p l e R s m args below meth c nL D A Q cells slots ws (pc + 3) lv (.long r :: rest)) : ST p l e R s m args below meth c nL D A Q cells slots ws pc lv st := by
  intro H locs ls hP hD hS h
  subst hst
  have hFc := va_free hD hS C.2.2.2.2.2.2.2 isC hC
  exact va_calll (va_runS (As := As) (rest := rest) ⟨C.1, C.2.1, C.2.2.1, C.2.2.2.1, C.2.2.2.2.1⟩ (hM H.size) (va_cwS n C.2.2.2.2.1 hG hwc hR.1 hR.2.1 hy hR.2.2) ⟨PCx.blind, PCx.go (av := As) (ws := ws) C.2.2.2.2.2.1 C.2.2.2.2.2.2.1 (sub_of_map hP isC hC) (hD.sub isC hnd hC)⟩ rfl hn h.1 rfl (lv_room hcat) hd ⟨hroom.1, hroom.2⟩) hS (fun q _ hq => hFc q hq) hFc (fun r1 u t H1 l1 ht hvm hw hB hz hk hS1 => by
    subst hw
    obtain ⟨hP1, hK1, hD1⟩ := hB
    rw [ht] at hP1
    obtain ⟨hP2, hD2⟩ := world_upd hP hD isC (nd_nodup hnd) hC rfl (setAll_self isC (nd_nodup hnd) hC) hk hP1
    exact kk H1 l1 ls hP2 hD2 hS1 h)
theorem r_roS_v (C : CX p s m args c nL cc own Ts D tys A) {y : MethodName} {wsC wsC' : List Cond} {bytes : ByteArray} {maxL n idx : Nat} {ret : Option FieldType} {rm : Room} {As rest : List Value} {wc : va_W} (hM : ∀ sz, Met l y wsC rm (PCx D tys As wc sz) (QV D tys wc sz wc) 0 0 (va_A wc sz)) (hG : GoodIn Ts (va_wsS own idx y wsC)) (hwc : wsC = Cond.code y bytes maxL ret :: wsC') (hy : y.cls ≠ "java/lang/invoke/MethodHandle" ∧ y.cls ≠ "java/lang/invoke/VarHandle" ∧ (parseMethodDescriptor y.desc).map (fun d => d.parameters.length) = some n) (hR : rm.cells = 0 ∧ rm.slots = 0 ∧ rm.frames + 1 ≤ R.frames ∧ 8 + (maxL + 11) + rm.locals ≤ R.locals) (hn : As.length = n) (isC : List Nat) (hnd : va_nd isC = true) (hC : isC.map (fun i => ws[i]?) = wc.map some) (hst : st = As.reverse ++ rest) (hcat : (rest.map fun v => v.category).sum ≤ 8) (hroom : cells ≤ R.cells ∧ slots ≤ R.slots) (hd : decode cc pc = .ok (.invokestatic idx, 3)) (kk : ST p l e R s m args below meth c nL D A Q cells slots ws (pc + 3) lv (rest)) : ST p l e R s m args below meth c nL D A Q cells slots ws pc lv st := by
  intro H locs ls hP hD hS h
  subst hst
  have hFc := va_free hD hS C.2.2.2.2.2.2.2 isC hC
  exact va_callv (va_runS (As := As) (rest := rest) ⟨C.1, C.2.1, C.2.2.1, C.2.2.2.1, C.2.2.2.2.1⟩ (hM H.size) (va_cwS n C.2.2.2.2.1 hG hwc hR.1 hR.2.1 hy hR.2.2) ⟨PCx.blind, PCx.go (av := As) (ws := ws) C.2.2.2.2.2.1 C.2.2.2.2.2.2.1 (sub_of_map hP isC hC) (hD.sub isC hnd hC)⟩ rfl hn h.1 rfl (lv_room hcat) hd ⟨hroom.1, hroom.2⟩) hS (fun q _ hq => hFc q hq) hFc (fun u t H1 l1 ht hvm hw hB hz hk hS1 => by
    obtain ⟨hP1, hK1, hD1⟩ := hB
    rw [ht] at hP1
    obtain ⟨hP2, hD2⟩ := world_upd hP hD isC (nd_nodup hnd) hC rfl (setAll_self isC (nd_nodup hnd) hC) hk hP1
    exact kk H1 l1 ls hP2 hD2 hS1 h)
theorem r_roSN_i (C : CX p s m args c nL cc own Ts D tys A) {y : MethodName} {wsC wsC' : List Cond} {bytes : ByteArray} {maxL n idx : Nat} {ret : Option FieldType} {rm : Room} {As rest : List Value} {wc : va_W} {r : Int32} (hM : ∀ sz, Met l y wsC rm (PCx D tys As wc sz) (QI D tys wc sz r wc) 0 0 (va_A wc sz)) (hG : GoodIn Ts wsC) (kn : Nat) (hnw : nwL[kn]? = some (own, idx, y)) (hini : Cond.initialized y.cls ∈ Ts) (hstt : Cond.static y ∈ Ts) (hwc : wsC = Cond.code y bytes maxL ret :: wsC') (hy : y.cls ≠ "java/lang/invoke/MethodHandle" ∧ y.cls ≠ "java/lang/invoke/VarHandle" ∧ (parseMethodDescriptor y.desc).map (fun d => d.parameters.length) = some n) (hR : rm.cells = 0 ∧ rm.slots = 0 ∧ rm.frames + 1 ≤ R.frames ∧ 8 + (maxL + 11) + rm.locals ≤ R.locals) (hn : As.length = n) (isC : List Nat) (hnd : va_nd isC = true) (hC : isC.map (fun i => ws[i]?) = wc.map some) (hst : st = As.reverse ++ rest) (hcat : (rest.map fun v => v.category).sum ≤ 8) (hroom : cells ≤ R.cells ∧ slots ≤ R.slots) (hd : decode cc pc = .ok (.invokestatic idx, 3)) (kk : ST p l e R s m args below meth c nL D A Q cells slots ws (pc + 3) lv (.int r :: rest)) : ST p l e R s m args below meth c nL D A Q cells slots ws pc lv st := by
  intro H locs ls hP hD hS h
  subst hst
  have hFc := va_free hD hS C.2.2.2.2.2.2.2 isC hC
  exact va_calli (va_runSN (As := As) (rest := rest) ⟨C.1, C.2.1, C.2.2.1, C.2.2.2.1, C.2.2.2.2.1⟩ (hM H.size) ⟨va_cnB n C.2.2.2.2.1 hG hwc hR.1 hR.2.1 (C.2.2.2.2.2.2.1.at kn hnw) (C.2.2.2.2.1 _ hini) hy hR.2.2, C.2.2.2.2.1 _ hstt, trivial⟩ ⟨PCx.blind, PCx.go (av := As) (ws := ws) C.2.2.2.2.2.1 C.2.2.2.2.2.2.1 (sub_of_map hP isC hC) (hD.sub isC hnd hC)⟩ rfl hn h.1 rfl (lv_room hcat) hd ⟨hroom.1, hroom.2⟩) hS (fun q _ hq => hFc q hq) hFc (fun r1 u t H1 l1 ht hvm hw hB hz hk hS1 => by
    subst hw
    obtain ⟨hP1, hK1, hD1⟩ := hB
    rw [ht] at hP1
    obtain ⟨hP2, hD2⟩ := world_upd hP hD isC (nd_nodup hnd) hC rfl (setAll_self isC (nd_nodup hnd) hC) hk hP1
    exact kk H1 l1 ls hP2 hD2 hS1 h)
theorem r_roSN_l (C : CX p s m args c nL cc own Ts D tys A) {y : MethodName} {wsC wsC' : List Cond} {bytes : ByteArray} {maxL n idx : Nat} {ret : Option FieldType} {rm : Room} {As rest : List Value} {wc : va_W} {r : Int64} (hM : ∀ sz, Met l y wsC rm (PCx D tys As wc sz) (QL D tys wc sz r wc) 0 0 (va_A wc sz)) (hG : GoodIn Ts wsC) (kn : Nat) (hnw : nwL[kn]? = some (own, idx, y)) (hini : Cond.initialized y.cls ∈ Ts) (hstt : Cond.static y ∈ Ts) (hwc : wsC = Cond.code y bytes maxL ret :: wsC') (hy : y.cls ≠ "java/lang/invoke/MethodHandle" ∧ y.cls ≠ "java/lang/invoke/VarHandle" ∧ (parseMethodDescriptor y.desc).map (fun d => d.parameters.length) = some n) (hR : rm.cells = 0 ∧ rm.slots = 0 ∧ rm.frames + 1 ≤ R.frames ∧ 8 + (maxL + 11) + rm.locals ≤ R.locals) (hn : As.length = n) (isC : List Nat) (hnd : va_nd isC = true) (hC : isC.map (fun i => ws[i]?) = wc.map some) (hst : st = As.reverse ++ rest) (hcat : (rest.map fun v => v.category).sum ≤ 8) (hroom : cells ≤ R.cells ∧ slots ≤ R.slots) (hd : decode cc pc = .ok (.invokestatic idx, 3)) (kk : ST p l e R s m args below meth c nL D A Q cells slots ws (pc + 3) lv (.long r :: rest)) : ST p l e R s m args below meth c nL D A Q cells slots ws pc lv st := by
  intro H locs ls hP hD hS h
  subst hst
  have hFc := va_free hD hS C.2.2.2.2.2.2.2 isC hC
  exact va_calll (va_runSN (As := As) (rest := rest) ⟨C.1, C.2.1, C.2.2.1, C.2.2.2.1, C.2.2.2.2.1⟩ (hM H.size) ⟨va_cnB n C.2.2.2.2.1 hG hwc hR.1 hR.2.1 (C.2.2.2.2.2.2.1.at kn hnw) (C.2.2.2.2.1 _ hini) hy hR.2.2, C.2.2.2.2.1 _ hstt, trivial⟩ ⟨PCx.blind, PCx.go (av := As) (ws := ws) C.2.2.2.2.2.1 C.2.2.2.2.2.2.1 (sub_of_map hP isC hC) (hD.sub isC hnd hC)⟩ rfl hn h.1 rfl (lv_room hcat) hd ⟨hroom.1, hroom.2⟩) hS (fun q _ hq => hFc q hq) hFc (fun r1 u t H1 l1 ht hvm hw hB hz hk hS1 => by
    subst hw
    obtain ⟨hP1, hK1, hD1⟩ := hB
    rw [ht] at hP1
    obtain ⟨hP2, hD2⟩ := world_upd hP hD isC (nd_nodup hnd) hC rfl (setAll_self isC (nd_nodup hnd) hC) hk hP1
    exact kk H1 l1 ls hP2 hD2 hS1 h)
theorem r_roSN_v (C : CX p s m args c nL cc own Ts D tys A) {y : MethodName} {wsC wsC' : List Cond} {bytes : ByteArray} {maxL n idx : Nat} {ret : Option FieldType} {rm : Room} {As rest : List Value} {wc : va_W} (hM : ∀ sz, Met l y wsC rm (PCx D tys As wc sz) (QV D tys wc sz wc) 0 0 (va_A wc sz)) (hG : GoodIn Ts wsC) (kn : Nat) (hnw : nwL[kn]? = some (own, idx, y)) (hini : Cond.initialized y.cls ∈ Ts) (hstt : Cond.static y ∈ Ts) (hwc : wsC = Cond.code y bytes maxL ret :: wsC') (hy : y.cls ≠ "java/lang/invoke/MethodHandle" ∧ y.cls ≠ "java/lang/invoke/VarHandle" ∧ (parseMethodDescriptor y.desc).map (fun d => d.parameters.length) = some n) (hR : rm.cells = 0 ∧ rm.slots = 0 ∧ rm.frames + 1 ≤ R.frames ∧ 8 + (maxL + 11) + rm.locals ≤ R.locals) (hn : As.length = n) (isC : List Nat) (hnd : va_nd isC = true) (hC : isC.map (fun i => ws[i]?) = wc.map some) (hst : st = As.reverse ++ rest) (hcat : (rest.map fun v => v.category).sum ≤ 8) (hroom : cells ≤ R.cells ∧ slots ≤ R.slots) (hd : decode cc pc = .ok (.invokestatic idx, 3)) (kk : ST p l e R s m args below meth c nL D A Q cells slots ws (pc + 3) lv (rest)) : ST p l e R s m args below meth c nL D A Q cells slots ws pc lv st := by
  intro H locs ls hP hD hS h
  subst hst
  have hFc := va_free hD hS C.2.2.2.2.2.2.2 isC hC
  exact va_callv (va_runSN (As := As) (rest := rest) ⟨C.1, C.2.1, C.2.2.1, C.2.2.2.1, C.2.2.2.2.1⟩ (hM H.size) ⟨va_cnB n C.2.2.2.2.1 hG hwc hR.1 hR.2.1 (C.2.2.2.2.2.2.1.at kn hnw) (C.2.2.2.2.1 _ hini) hy hR.2.2, C.2.2.2.2.1 _ hstt, trivial⟩ ⟨PCx.blind, PCx.go (av := As) (ws := ws) C.2.2.2.2.2.1 C.2.2.2.2.2.2.1 (sub_of_map hP isC hC) (hD.sub isC hnd hC)⟩ rfl hn h.1 rfl (lv_room hcat) hd ⟨hroom.1, hroom.2⟩) hS (fun q _ hq => hFc q hq) hFc (fun u t H1 l1 ht hvm hw hB hz hk hS1 => by
    obtain ⟨hP1, hK1, hD1⟩ := hB
    rw [ht] at hP1
    obtain ⟨hP2, hD2⟩ := world_upd hP hD isC (nd_nodup hnd) hC rfl (setAll_self isC (nd_nodup hnd) hC) hk hP1
    exact kk H1 l1 ls hP2 hD2 hS1 h)
end STC
