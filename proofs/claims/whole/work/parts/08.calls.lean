def bz_ {α : Type} (r : Int32) (k : Option α) : Option α := if r = 0 ∨ r = 1 then k else none
theorem bz_some {α : Type} {y : Int32} {k : Option α} {r : α} (h : bz_ y k = some r) : narrow .boolean (.int y) = .int y ∧ k = some r := by
  unfold bz_ at h
  split at h
  · rename_i hc
    refine ⟨?_, h⟩
    rcases hc with rfl | rfl <;> rfl
  · cases h
/-- the world behind a call: the callee's cells are new, the others stay -/
theorem world_upd {A0 : Nat → Prop} {D : va_G} {cl : List vw_C} {ws ws' wc w1 : va_W} {H H1 : Heap} (hP : va_P D cl ws H) (hD : va_D A0 ws) (isC : List Nat) (hC : isC.map (fun i => ws[i]?) = wc.map some) (hC' : isC.map (fun i => ws'[i]?) = w1.map some) (isR : List Nat) {nw : Nat} (hlen : ws.length = nw) (hcov : (List.range nw).all (fun i => isC.contains i || isR.contains i) = true) (hR : isR.map (fun i => ws'[i]?) = isR.map (fun i => ws[i]?)) (hadr : ws'.map Prod.fst = ws.map Prod.fst)
    (hk : ∀ q : Nat, q < H.size → ¬ va_A wc H.size q → H1[q]? = H[q]?) (hP1 : va_P D cl w1 H1) : va_P D cl ws' H1 ∧ va_D A0 ws' := by
  have at' : ∀ {is : List Nat} {u w : va_W}, is.map (fun i => u[i]?) = w.map some → ∀ (k : Nat) (q : Nat × va_E), w[k]? = some q → ∃ i, is[k]? = some i ∧ u[i]? = some q := by
    intro is u w hs k q hq
    have h1 : (is.map (fun i => u[i]?))[k]? = some (some q) := by rw [hs, List.getElem?_map, hq]; rfl
    rw [List.getElem?_map] at h1
    cases hi : is[k]? with
    | none => rw [hi] at h1; cases h1
    | some i => rw [hi] at h1; exact ⟨i, rfl, Option.some.inj h1⟩
  have hadr2 : ∀ (i : Nat) (p : Nat × va_E), ws'[i]? = some p → ∃ p2, ws[i]? = some p2 ∧ p2.1 = p.1 := by
    intro i p h
    have h1 : (ws.map Prod.fst)[i]? = some p.1 := by rw [← hadr, List.getElem?_map, h]; rfl
    rw [List.getElem?_map] at h1
    cases hw : ws[i]? with
    | none => rw [hw] at h1; cases h1
    | some p2 => rw [hw] at h1; exact ⟨p2, rfl, Option.some.inj h1⟩
  refine ⟨fun k q hq => ?_, fun i j p q hp hq e => ?_, fun k q hq => ?_⟩
  · obtain ⟨p2, hp2, -⟩ := hadr2 k q hq
    have hkl : k < ws.length := (List.getElem?_eq_some_iff.mp hp2).1
    by_cases hm : k ∈ isC
    · obtain ⟨j, hj⟩ := List.mem_iff_getElem?.mp hm
      have h1 : (isC.map (fun i => ws'[i]?))[j]? = some (ws'[k]?) := by rw [List.getElem?_map, hj]; rfl
      rw [hC', List.getElem?_map, hq] at h1
      cases hw : w1[j]? with
      | none => rw [hw] at h1; cases h1
      | some x =>
        rw [hw] at h1
        have hx : x = q := Option.some.inj (Option.some.inj h1)
        subst hx
        exact hP1 j _ hw
    · have hmf : k ∈ isR := by
        have h9 := List.all_eq_true.mp hcov k (List.mem_range.mpr (by rw [← hlen]; exact hkl))
        simp [hm] at h9
        exact h9
      obtain ⟨j, hj⟩ := List.mem_iff_getElem?.mp hmf
      have h1 : (isR.map (fun i => ws'[i]?))[j]? = some (ws'[k]?) := by rw [List.getElem?_map, hj]; rfl
      rw [hR, List.getElem?_map, hj] at h1
      have h2 : ws[k]? = some q := (Option.some.inj h1).trans hq
      refine (hP k q h2).kept (hk q.1 (hP k q h2).lt ?_)
      rintro (⟨k2, e, h3⟩ | h3)
      · obtain ⟨i, h4, h5⟩ := at' hC k2 (q.1, e) h3
        have := hD.1 k i q (q.1, e) h2 h5 rfl
        subst this
        exact hm (List.mem_of_getElem? h4)
      · exact absurd (hP k q h2).lt (Nat.not_lt.mpr h3)
  · obtain ⟨p2, h1, h2⟩ := hadr2 i p hp
    obtain ⟨q2, h3, h4⟩ := hadr2 j q hq
    exact hD.1 i j p2 q2 h1 h3 (by rw [h2, h4]; exact e)
  · obtain ⟨p2, h1, h2⟩ := hadr2 k q hq
    rw [← h2]
    exact hD.2 k p2 h1
theorem sub_of_map {D : va_G} {cl : List vw_C} {ws wc : va_W} {H : Heap} (hP : va_P D cl ws H) (isC : List Nat) (hC : isC.map (fun i => ws[i]?) = wc.map some) : va_P D cl wc H := by
  refine hP.sub isC ?_
  have : isC.filterMap (fun i => ws[i]?) = (isC.map (fun i => ws[i]?)).filterMap id := by rw [List.filterMap_map]; rfl
  rw [this, hC, List.filterMap_map]
  simp
section STC
variable {p : Program} {l : Launch} {e : Env} {R : Room} {s : State} {m : MethodId} {args : Array Value} {below : List Frame} {meth : Method} {c : Code} {nL : Nat} {cc : ByteArray} {own : String} {Ts : List Cond} {D : va_G} {tys : List (ClassId × FieldType)} {A : Nat → Prop} {Q : State → Prop} {cells slots : Nat} {ws : va_W} {pc : Nat} {lv : LV} {st : List Value} {w0 w1 : va_W}
theorem r_iret (C : CX p s m args c nL cc own Ts D tys (va_A w0 s.heap.size)) {r : Int32} (hr : meth.sig.returnType = some .int) (hk : meth.locks = false) (hd : decode cc pc = .ok (.ireturn, 1)) : ST p l e R s m args below meth c nL D (va_A w0 s.heap.size) (MQ below (QI D tys w0 s.heap.size r w1) args s cells slots (va_A w0 s.heap.size)) cells slots w1 pc lv [.int r] := fun H locs ls hP hD hS h => W.iret C.1 C.2.1 hr (fun t ht hW => ⟨⟨r, (), rfl, rfl, by rw [ht]; exact hP, va_K.moved hW.alike C.2.2.2.2.2.1, hD⟩, hS.F ht⟩) hS.2.2 hd hk
theorem r_zret (C : CX p s m args c nL cc own Ts D tys (va_A w0 s.heap.size)) {r : Int32} {ty : FieldType} (hr : meth.sig.returnType = some ty) (hk : meth.locks = false) (hn : narrow ty (.int r) = .int r) (hd : decode cc pc = .ok (.ireturn, 1)) : ST p l e R s m args below meth c nL D (va_A w0 s.heap.size) (MQ below (QI D tys w0 s.heap.size r w1) args s cells slots (va_A w0 s.heap.size)) cells slots w1 pc lv [.int r] := fun H locs ls hP hD hS h => W.zret C.1 C.2.1 hr hn (fun t ht hW => ⟨⟨r, (), rfl, rfl, by rw [ht]; exact hP, va_K.moved hW.alike C.2.2.2.2.2.1, hD⟩, hS.F ht⟩) hS.2.2 hd hk
theorem r_lret (C : CX p s m args c nL cc own Ts D tys (va_A w0 s.heap.size)) {r : Int64} (hr : meth.sig.returnType = some .long) (hk : meth.locks = false) (hd : decode cc pc = .ok (.lreturn, 1)) : ST p l e R s m args below meth c nL D (va_A w0 s.heap.size) (MQ below (QL D tys w0 s.heap.size r w1) args s cells slots (va_A w0 s.heap.size)) cells slots w1 pc lv [.long r] := fun H locs ls hP hD hS h => W.lret C.1 C.2.1 hr (fun t ht hW => ⟨⟨r, (), rfl, rfl, by rw [ht]; exact hP, va_K.moved hW.alike C.2.2.2.2.2.1, hD⟩, hS.F ht⟩) hS.2.2 hd hk
theorem r_vret (C : CX p s m args c nL cc own Ts D tys (va_A w0 s.heap.size)) (hr : meth.sig.returnType = none) (hk : meth.locks = false) (hd : decode cc pc = .ok (.return_, 1)) : ST p l e R s m args below meth c nL D (va_A w0 s.heap.size) (MQ below (QV D tys w0 s.heap.size w1) args s cells slots (va_A w0 s.heap.size)) cells slots w1 pc lv [] := fun H locs ls hP hD hS h => W.vret C.1 C.2.1 hr (fun t ht hW => ⟨⟨(), rfl, trivial, by rw [ht]; exact hP, va_K.moved hW.alike C.2.2.2.2.2.1, hD⟩, hS.F ht⟩) hS.2.2 hd hk
theorem r_callV_i (C : CX p s m args c nL cc own Ts D tys A) {y : MethodName} {wsC wsC' : List Cond} {bytes : ByteArray} {maxL n idx : Nat} {ret : Option FieldType} {rm : Room} {Cn : String} {b : Nat} {As rest : List Value} {wc wd ws' : va_W} {r : Int32} (hM : ∀ sz, Met l y wsC rm (PCx D tys (.ref b :: As) wc sz) (QI D tys wc sz r wd) 0 0 (va_A wc sz)) (hG : GoodIn Ts (wsV own idx Cn y wsC)) (hwc : wsC = Cond.code y bytes maxL ret :: wsC') (hy : y.cls = Cn ∧ y.cls ≠ "java/lang/invoke/MethodHandle" ∧ y.cls ≠ "java/lang/invoke/VarHandle" ∧ (parseMethodDescriptor y.desc).map (fun d => d.parameters.length) = some n) (hR : rm.cells = 0 ∧ rm.slots = 0 ∧ rm.frames + 1 ≤ R.frames ∧ 8 + (maxL + 11) + rm.locals ≤ R.locals) (hn : As.length = n) (q0 : Nat) {ci N : Nat} {T : u_T} {fs : List Value} (he : ws[q0]? = some (b, .inr (ci, fs))) (hcl : vwCl[ci]? = some (Cn, T, N)) (isC : List Nat) (hnd : va_nd isC = true) (hC : isC.map (fun i => ws[i]?) = wc.map some) (isR : List Nat) {nw : Nat} (hlen : ws.length = nw) (hcov : (List.range nw).all (fun i => isC.contains i || isR.contains i) = true) (hC' : isC.map (fun i => ws'[i]?) = wd.map some) (hR' : isR.map (fun i => ws'[i]?) = isR.map (fun i => ws[i]?)) (hadr : ws'.map Prod.fst = ws.map Prod.fst) (hst : st = As.reverse ++ .ref b :: rest) (hcat : (rest.map fun v => v.category).sum ≤ 8) (hroom : cells ≤ R.cells ∧ slots ≤ R.slots) (hd : decode cc pc = .ok (.invokevirtual idx, 3)) (kk : ST p l e R s m args below meth c nL D A Q cells slots ws' (pc + 3) lv (.int r :: rest)) : ST p l e R s m args below meth c nL D A Q cells slots ws pc lv st := by
  intro H locs ls hP hD hS h
  subst hst
  have hFc := va_free hD hS C.2.2.2.2.2.2.2 isC hC
  exact va_calli (va_runV (As := As) (rest := rest) ⟨C.1, C.2.1, C.2.2.1, C.2.2.2.1, C.2.2.2.2.1⟩ (hM H.size) (cwV n C.2.2.2.2.1 hG hwc hR.1 hR.2.1 hy hR.2.2) ⟨PCx.blind, va_recv C.2.2.2.2.2.1 hP hcl he, PCx.go (av := .ref b :: As) (ws := ws) C.2.2.2.2.2.1 C.2.2.2.2.2.2.1 (sub_of_map hP isC hC) (hD.sub isC hnd hC)⟩ rfl hn h.1 rfl (lv_room hcat) hd ⟨hroom.1, hroom.2⟩) hS (fun q _ hq => hFc q hq) hFc (fun r1 u t H1 l1 ht hvm hw hB hz hk hS1 => by
    subst hw
    obtain ⟨hP1, hK1, hD1⟩ := hB
    rw [ht] at hP1
    obtain ⟨hP2, hD2⟩ := world_upd hP hD isC hC hC' isR hlen hcov hR' hadr hk hP1
    exact kk H1 l1 ls hP2 hD2 hS1 h)
theorem r_callV_l (C : CX p s m args c nL cc own Ts D tys A) {y : MethodName} {wsC wsC' : List Cond} {bytes : ByteArray} {maxL n idx : Nat} {ret : Option FieldType} {rm : Room} {Cn : String} {b : Nat} {As rest : List Value} {wc wd ws' : va_W} {r : Int64} (hM : ∀ sz, Met l y wsC rm (PCx D tys (.ref b :: As) wc sz) (QL D tys wc sz r wd) 0 0 (va_A wc sz)) (hG : GoodIn Ts (wsV own idx Cn y wsC)) (hwc : wsC = Cond.code y bytes maxL ret :: wsC') (hy : y.cls = Cn ∧ y.cls ≠ "java/lang/invoke/MethodHandle" ∧ y.cls ≠ "java/lang/invoke/VarHandle" ∧ (parseMethodDescriptor y.desc).map (fun d => d.parameters.length) = some n) (hR : rm.cells = 0 ∧ rm.slots = 0 ∧ rm.frames + 1 ≤ R.frames ∧ 8 + (maxL + 11) + rm.locals ≤ R.locals) (hn : As.length = n) (q0 : Nat) {ci N : Nat} {T : u_T} {fs : List Value} (he : ws[q0]? = some (b, .inr (ci, fs))) (hcl : vwCl[ci]? = some (Cn, T, N)) (isC : List Nat) (hnd : va_nd isC = true) (hC : isC.map (fun i => ws[i]?) = wc.map some) (isR : List Nat) {nw : Nat} (hlen : ws.length = nw) (hcov : (List.range nw).all (fun i => isC.contains i || isR.contains i) = true) (hC' : isC.map (fun i => ws'[i]?) = wd.map some) (hR' : isR.map (fun i => ws'[i]?) = isR.map (fun i => ws[i]?)) (hadr : ws'.map Prod.fst = ws.map Prod.fst) (hst : st = As.reverse ++ .ref b :: rest) (hcat : (rest.map fun v => v.category).sum ≤ 8) (hroom : cells ≤ R.cells ∧ slots ≤ R.slots) (hd : decode cc pc = .ok (.invokevirtual idx, 3)) (kk : ST p l e R s m args below meth c nL D A Q cells slots ws' (pc + 3) lv (.long r :: rest)) : ST p l e R s m args below meth c nL D A Q cells slots ws pc lv st := by
  intro H locs ls hP hD hS h
  subst hst
  have hFc := va_free hD hS C.2.2.2.2.2.2.2 isC hC
  exact va_calll (va_runV (As := As) (rest := rest) ⟨C.1, C.2.1, C.2.2.1, C.2.2.2.1, C.2.2.2.2.1⟩ (hM H.size) (cwV n C.2.2.2.2.1 hG hwc hR.1 hR.2.1 hy hR.2.2) ⟨PCx.blind, va_recv C.2.2.2.2.2.1 hP hcl he, PCx.go (av := .ref b :: As) (ws := ws) C.2.2.2.2.2.1 C.2.2.2.2.2.2.1 (sub_of_map hP isC hC) (hD.sub isC hnd hC)⟩ rfl hn h.1 rfl (lv_room hcat) hd ⟨hroom.1, hroom.2⟩) hS (fun q _ hq => hFc q hq) hFc (fun r1 u t H1 l1 ht hvm hw hB hz hk hS1 => by
    subst hw
    obtain ⟨hP1, hK1, hD1⟩ := hB
    rw [ht] at hP1
    obtain ⟨hP2, hD2⟩ := world_upd hP hD isC hC hC' isR hlen hcov hR' hadr hk hP1
    exact kk H1 l1 ls hP2 hD2 hS1 h)
theorem r_callV_v (C : CX p s m args c nL cc own Ts D tys A) {y : MethodName} {wsC wsC' : List Cond} {bytes : ByteArray} {maxL n idx : Nat} {ret : Option FieldType} {rm : Room} {Cn : String} {b : Nat} {As rest : List Value} {wc wd ws' : va_W} (hM : ∀ sz, Met l y wsC rm (PCx D tys (.ref b :: As) wc sz) (QV D tys wc sz wd) 0 0 (va_A wc sz)) (hG : GoodIn Ts (wsV own idx Cn y wsC)) (hwc : wsC = Cond.code y bytes maxL ret :: wsC') (hy : y.cls = Cn ∧ y.cls ≠ "java/lang/invoke/MethodHandle" ∧ y.cls ≠ "java/lang/invoke/VarHandle" ∧ (parseMethodDescriptor y.desc).map (fun d => d.parameters.length) = some n) (hR : rm.cells = 0 ∧ rm.slots = 0 ∧ rm.frames + 1 ≤ R.frames ∧ 8 + (maxL + 11) + rm.locals ≤ R.locals) (hn : As.length = n) (q0 : Nat) {ci N : Nat} {T : u_T} {fs : List Value} (he : ws[q0]? = some (b, .inr (ci, fs))) (hcl : vwCl[ci]? = some (Cn, T, N)) (isC : List Nat) (hnd : va_nd isC = true) (hC : isC.map (fun i => ws[i]?) = wc.map some) (isR : List Nat) {nw : Nat} (hlen : ws.length = nw) (hcov : (List.range nw).all (fun i => isC.contains i || isR.contains i) = true) (hC' : isC.map (fun i => ws'[i]?) = wd.map some) (hR' : isR.map (fun i => ws'[i]?) = isR.map (fun i => ws[i]?)) (hadr : ws'.map Prod.fst = ws.map Prod.fst) (hst : st = As.reverse ++ .ref b :: rest) (hcat : (rest.map fun v => v.category).sum ≤ 8) (hroom : cells ≤ R.cells ∧ slots ≤ R.slots) (hd : decode cc pc = .ok (.invokevirtual idx, 3)) (kk : ST p l e R s m args below meth c nL D A Q cells slots ws' (pc + 3) lv (rest)) : ST p l e R s m args below meth c nL D A Q cells slots ws pc lv st := by
  intro H locs ls hP hD hS h
  subst hst
  have hFc := va_free hD hS C.2.2.2.2.2.2.2 isC hC
  exact va_callv (va_runV (As := As) (rest := rest) ⟨C.1, C.2.1, C.2.2.1, C.2.2.2.1, C.2.2.2.2.1⟩ (hM H.size) (cwV n C.2.2.2.2.1 hG hwc hR.1 hR.2.1 hy hR.2.2) ⟨PCx.blind, va_recv C.2.2.2.2.2.1 hP hcl he, PCx.go (av := .ref b :: As) (ws := ws) C.2.2.2.2.2.1 C.2.2.2.2.2.2.1 (sub_of_map hP isC hC) (hD.sub isC hnd hC)⟩ rfl hn h.1 rfl (lv_room hcat) hd ⟨hroom.1, hroom.2⟩) hS (fun q _ hq => hFc q hq) hFc (fun u t H1 l1 ht hvm hw hB hz hk hS1 => by
    obtain ⟨hP1, hK1, hD1⟩ := hB
    rw [ht] at hP1
    obtain ⟨hP2, hD2⟩ := world_upd hP hD isC hC hC' isR hlen hcov hR' hadr hk hP1
    exact kk H1 l1 ls hP2 hD2 hS1 h)
theorem r_callS_i (C : CX p s m args c nL cc own Ts D tys A) {y : MethodName} {wsC wsC' : List Cond} {bytes : ByteArray} {maxL n idx : Nat} {ret : Option FieldType} {rm : Room} {As rest : List Value} {wc wd ws' : va_W} {r : Int32} (hM : ∀ sz, Met l y wsC rm (PCx D tys As wc sz) (QI D tys wc sz r wd) 0 0 (va_A wc sz)) (hG : GoodIn Ts (va_wsS own idx y wsC)) (hwc : wsC = Cond.code y bytes maxL ret :: wsC') (hy : y.cls ≠ "java/lang/invoke/MethodHandle" ∧ y.cls ≠ "java/lang/invoke/VarHandle" ∧ (parseMethodDescriptor y.desc).map (fun d => d.parameters.length) = some n) (hR : rm.cells = 0 ∧ rm.slots = 0 ∧ rm.frames + 1 ≤ R.frames ∧ 8 + (maxL + 11) + rm.locals ≤ R.locals) (hn : As.length = n) (isC : List Nat) (hnd : va_nd isC = true) (hC : isC.map (fun i => ws[i]?) = wc.map some) (isR : List Nat) {nw : Nat} (hlen : ws.length = nw) (hcov : (List.range nw).all (fun i => isC.contains i || isR.contains i) = true) (hC' : isC.map (fun i => ws'[i]?) = wd.map some) (hR' : isR.map (fun i => ws'[i]?) = isR.map (fun i => ws[i]?)) (hadr : ws'.map Prod.fst = ws.map Prod.fst) (hst : st = As.reverse ++ rest) (hcat : (rest.map fun v => v.category).sum ≤ 8) (hroom : cells ≤ R.cells ∧ slots ≤ R.slots) (hd : decode cc pc = .ok (.invokestatic idx, 3)) (kk : ST p l e R s m args below meth c nL D A Q cells slots ws' (pc + 3) lv (.int r :: rest)) : ST p l e R s m args below meth c nL D A Q cells slots ws pc lv st := by
  intro H locs ls hP hD hS h
  subst hst
  have hFc := va_free hD hS C.2.2.2.2.2.2.2 isC hC
  exact va_calli (va_runS (As := As) (rest := rest) ⟨C.1, C.2.1, C.2.2.1, C.2.2.2.1, C.2.2.2.2.1⟩ (hM H.size) (va_cwS n C.2.2.2.2.1 hG hwc hR.1 hR.2.1 hy hR.2.2) ⟨PCx.blind, PCx.go (av := As) (ws := ws) C.2.2.2.2.2.1 C.2.2.2.2.2.2.1 (sub_of_map hP isC hC) (hD.sub isC hnd hC)⟩ rfl hn h.1 rfl (lv_room hcat) hd ⟨hroom.1, hroom.2⟩) hS (fun q _ hq => hFc q hq) hFc (fun r1 u t H1 l1 ht hvm hw hB hz hk hS1 => by
    subst hw
    obtain ⟨hP1, hK1, hD1⟩ := hB
    rw [ht] at hP1
    obtain ⟨hP2, hD2⟩ := world_upd hP hD isC hC hC' isR hlen hcov hR' hadr hk hP1
    exact kk H1 l1 ls hP2 hD2 hS1 h)
theorem r_callS_l (C : CX p s m args c nL cc own Ts D tys A) {y : MethodName} {wsC wsC' : List Cond} {bytes : ByteArray} {maxL n idx : Nat} {ret : Option FieldType} {rm : Room} {As rest : List Value} {wc wd ws' : va_W} {r : Int64} (hM : ∀ sz, Met l y wsC rm (PCx D tys As wc sz) (QL D tys wc sz r wd) 0 0 (va_A wc sz)) (hG : GoodIn Ts (va_wsS own idx y wsC)) (hwc : wsC = Cond.code y bytes maxL ret :: wsC') (hy : y.cls ≠ "java/lang/invoke/MethodHandle" ∧ y.cls ≠ "java/lang/invoke/VarHandle" ∧ (parseMethodDescriptor y.desc).map (fun d => d.parameters.length) = some n) (hR : rm.cells = 0 ∧ rm.slots = 0 ∧ rm.frames + 1 ≤ R.frames ∧ 8 + (maxL + 11) + rm.locals ≤ R.locals) (hn : As.length = n) (isC : List Nat) (hnd : va_nd isC = true) (hC : isC.map (fun i => ws[i]?) = wc.map some) (isR : List Nat) {nw : Nat} (hlen : ws.length = nw) (hcov : (List.range nw).all (fun i => isC.contains i || isR.contains i) = true) (hC' : isC.map (fun i => ws'[i]?) = wd.map some) (hR' : isR.map (fun i => ws'[i]?) = isR.map (fun i => ws[i]?)) (hadr : ws'.map Prod.fst = ws.map Prod.fst) (hst : st = As.reverse ++ rest) (hcat : (rest.map fun v => v.category).sum ≤ 8) (hroom : cells ≤ R.cells ∧ slots ≤ R.slots) (hd : decode cc pc = .ok (.invokestatic idx, 3)) (kk : ST p l e R s m args below meth c nL D A Q cells slots ws' (pc + 3) lv (.long r :: rest)) : ST p l e R s m args below meth c nL D A Q cells slots ws pc lv st := by
  intro H locs ls hP hD hS h
  subst hst
  have hFc := va_free hD hS C.2.2.2.2.2.2.2 isC hC
  exact va_calll (va_runS (As := As) (rest := rest) ⟨C.1, C.2.1, C.2.2.1, C.2.2.2.1, C.2.2.2.2.1⟩ (hM H.size) (va_cwS n C.2.2.2.2.1 hG hwc hR.1 hR.2.1 hy hR.2.2) ⟨PCx.blind, PCx.go (av := As) (ws := ws) C.2.2.2.2.2.1 C.2.2.2.2.2.2.1 (sub_of_map hP isC hC) (hD.sub isC hnd hC)⟩ rfl hn h.1 rfl (lv_room hcat) hd ⟨hroom.1, hroom.2⟩) hS (fun q _ hq => hFc q hq) hFc (fun r1 u t H1 l1 ht hvm hw hB hz hk hS1 => by
    subst hw
    obtain ⟨hP1, hK1, hD1⟩ := hB
    rw [ht] at hP1
    obtain ⟨hP2, hD2⟩ := world_upd hP hD isC hC hC' isR hlen hcov hR' hadr hk hP1
    exact kk H1 l1 ls hP2 hD2 hS1 h)
theorem r_callS_v (C : CX p s m args c nL cc own Ts D tys A) {y : MethodName} {wsC wsC' : List Cond} {bytes : ByteArray} {maxL n idx : Nat} {ret : Option FieldType} {rm : Room} {As rest : List Value} {wc wd ws' : va_W} (hM : ∀ sz, Met l y wsC rm (PCx D tys As wc sz) (QV D tys wc sz wd) 0 0 (va_A wc sz)) (hG : GoodIn Ts (va_wsS own idx y wsC)) (hwc : wsC = Cond.code y bytes maxL ret :: wsC') (hy : y.cls ≠ "java/lang/invoke/MethodHandle" ∧ y.cls ≠ "java/lang/invoke/VarHandle" ∧ (parseMethodDescriptor y.desc).map (fun d => d.parameters.length) = some n) (hR : rm.cells = 0 ∧ rm.slots = 0 ∧ rm.frames + 1 ≤ R.frames ∧ 8 + (maxL + 11) + rm.locals ≤ R.locals) (hn : As.length = n) (isC : List Nat) (hnd : va_nd isC = true) (hC : isC.map (fun i => ws[i]?) = wc.map some) (isR : List Nat) {nw : Nat} (hlen : ws.length = nw) (hcov : (List.range nw).all (fun i => isC.contains i || isR.contains i) = true) (hC' : isC.map (fun i => ws'[i]?) = wd.map some) (hR' : isR.map (fun i => ws'[i]?) = isR.map (fun i => ws[i]?)) (hadr : ws'.map Prod.fst = ws.map Prod.fst) (hst : st = As.reverse ++ rest) (hcat : (rest.map fun v => v.category).sum ≤ 8) (hroom : cells ≤ R.cells ∧ slots ≤ R.slots) (hd : decode cc pc = .ok (.invokestatic idx, 3)) (kk : ST p l e R s m args below meth c nL D A Q cells slots ws' (pc + 3) lv (rest)) : ST p l e R s m args below meth c nL D A Q cells slots ws pc lv st := by
  intro H locs ls hP hD hS h
  subst hst
  have hFc := va_free hD hS C.2.2.2.2.2.2.2 isC hC
  exact va_callv (va_runS (As := As) (rest := rest) ⟨C.1, C.2.1, C.2.2.1, C.2.2.2.1, C.2.2.2.2.1⟩ (hM H.size) (va_cwS n C.2.2.2.2.1 hG hwc hR.1 hR.2.1 hy hR.2.2) ⟨PCx.blind, PCx.go (av := As) (ws := ws) C.2.2.2.2.2.1 C.2.2.2.2.2.2.1 (sub_of_map hP isC hC) (hD.sub isC hnd hC)⟩ rfl hn h.1 rfl (lv_room hcat) hd ⟨hroom.1, hroom.2⟩) hS (fun q _ hq => hFc q hq) hFc (fun u t H1 l1 ht hvm hw hB hz hk hS1 => by
    obtain ⟨hP1, hK1, hD1⟩ := hB
    rw [ht] at hP1
    obtain ⟨hP2, hD2⟩ := world_upd hP hD isC hC hC' isR hlen hcov hR' hadr hk hP1
    exact kk H1 l1 ls hP2 hD2 hS1 h)
theorem r_callSN_i (C : CX p s m args c nL cc own Ts D tys A) {y : MethodName} {wsC wsC' : List Cond} {bytes : ByteArray} {maxL n idx : Nat} {ret : Option FieldType} {rm : Room} {As rest : List Value} {wc wd ws' : va_W} {r : Int32} (hM : ∀ sz, Met l y wsC rm (PCx D tys As wc sz) (QI D tys wc sz r wd) 0 0 (va_A wc sz)) (hG : GoodIn Ts wsC) (kn : Nat) (hnw : nwL[kn]? = some (own, idx, y)) (hini : Cond.initialized y.cls ∈ Ts) (hstt : Cond.static y ∈ Ts) (hwc : wsC = Cond.code y bytes maxL ret :: wsC') (hy : y.cls ≠ "java/lang/invoke/MethodHandle" ∧ y.cls ≠ "java/lang/invoke/VarHandle" ∧ (parseMethodDescriptor y.desc).map (fun d => d.parameters.length) = some n) (hR : rm.cells = 0 ∧ rm.slots = 0 ∧ rm.frames + 1 ≤ R.frames ∧ 8 + (maxL + 11) + rm.locals ≤ R.locals) (hn : As.length = n) (isC : List Nat) (hnd : va_nd isC = true) (hC : isC.map (fun i => ws[i]?) = wc.map some) (isR : List Nat) {nw : Nat} (hlen : ws.length = nw) (hcov : (List.range nw).all (fun i => isC.contains i || isR.contains i) = true) (hC' : isC.map (fun i => ws'[i]?) = wd.map some) (hR' : isR.map (fun i => ws'[i]?) = isR.map (fun i => ws[i]?)) (hadr : ws'.map Prod.fst = ws.map Prod.fst) (hst : st = As.reverse ++ rest) (hcat : (rest.map fun v => v.category).sum ≤ 8) (hroom : cells ≤ R.cells ∧ slots ≤ R.slots) (hd : decode cc pc = .ok (.invokestatic idx, 3)) (kk : ST p l e R s m args below meth c nL D A Q cells slots ws' (pc + 3) lv (.int r :: rest)) : ST p l e R s m args below meth c nL D A Q cells slots ws pc lv st := by
  intro H locs ls hP hD hS h
  subst hst
  have hFc := va_free hD hS C.2.2.2.2.2.2.2 isC hC
  exact va_calli (va_runSN (As := As) (rest := rest) ⟨C.1, C.2.1, C.2.2.1, C.2.2.2.1, C.2.2.2.2.1⟩ (hM H.size) ⟨va_cnB n C.2.2.2.2.1 hG hwc hR.1 hR.2.1 (C.2.2.2.2.2.2.1.at kn hnw) (C.2.2.2.2.1 _ hini) hy hR.2.2, C.2.2.2.2.1 _ hstt, trivial⟩ ⟨PCx.blind, PCx.go (av := As) (ws := ws) C.2.2.2.2.2.1 C.2.2.2.2.2.2.1 (sub_of_map hP isC hC) (hD.sub isC hnd hC)⟩ rfl hn h.1 rfl (lv_room hcat) hd ⟨hroom.1, hroom.2⟩) hS (fun q _ hq => hFc q hq) hFc (fun r1 u t H1 l1 ht hvm hw hB hz hk hS1 => by
    subst hw
    obtain ⟨hP1, hK1, hD1⟩ := hB
    rw [ht] at hP1
    obtain ⟨hP2, hD2⟩ := world_upd hP hD isC hC hC' isR hlen hcov hR' hadr hk hP1
    exact kk H1 l1 ls hP2 hD2 hS1 h)
theorem r_callSN_l (C : CX p s m args c nL cc own Ts D tys A) {y : MethodName} {wsC wsC' : List Cond} {bytes : ByteArray} {maxL n idx : Nat} {ret : Option FieldType} {rm : Room} {As rest : List Value} {wc wd ws' : va_W} {r : Int64} (hM : ∀ sz, Met l y wsC rm (PCx D tys As wc sz) (QL D tys wc sz r wd) 0 0 (va_A wc sz)) (hG : GoodIn Ts wsC) (kn : Nat) (hnw : nwL[kn]? = some (own, idx, y)) (hini : Cond.initialized y.cls ∈ Ts) (hstt : Cond.static y ∈ Ts) (hwc : wsC = Cond.code y bytes maxL ret :: wsC') (hy : y.cls ≠ "java/lang/invoke/MethodHandle" ∧ y.cls ≠ "java/lang/invoke/VarHandle" ∧ (parseMethodDescriptor y.desc).map (fun d => d.parameters.length) = some n) (hR : rm.cells = 0 ∧ rm.slots = 0 ∧ rm.frames + 1 ≤ R.frames ∧ 8 + (maxL + 11) + rm.locals ≤ R.locals) (hn : As.length = n) (isC : List Nat) (hnd : va_nd isC = true) (hC : isC.map (fun i => ws[i]?) = wc.map some) (isR : List Nat) {nw : Nat} (hlen : ws.length = nw) (hcov : (List.range nw).all (fun i => isC.contains i || isR.contains i) = true) (hC' : isC.map (fun i => ws'[i]?) = wd.map some) (hR' : isR.map (fun i => ws'[i]?) = isR.map (fun i => ws[i]?)) (hadr : ws'.map Prod.fst = ws.map Prod.fst) (hst : st = As.reverse ++ rest) (hcat : (rest.map fun v => v.category).sum ≤ 8) (hroom : cells ≤ R.cells ∧ slots ≤ R.slots) (hd : decode cc pc = .ok (.invokestatic idx, 3)) (kk : ST p l e R s m args below meth c nL D A Q cells slots ws' (pc + 3) lv (.long r :: rest)) : ST p l e R s m args below meth c nL D A Q cells slots ws pc lv st := by
  intro H locs ls hP hD hS h
  subst hst
  have hFc := va_free hD hS C.2.2.2.2.2.2.2 isC hC
  exact va_calll (va_runSN (As := As) (rest := rest) ⟨C.1, C.2.1, C.2.2.1, C.2.2.2.1, C.2.2.2.2.1⟩ (hM H.size) ⟨va_cnB n C.2.2.2.2.1 hG hwc hR.1 hR.2.1 (C.2.2.2.2.2.2.1.at kn hnw) (C.2.2.2.2.1 _ hini) hy hR.2.2, C.2.2.2.2.1 _ hstt, trivial⟩ ⟨PCx.blind, PCx.go (av := As) (ws := ws) C.2.2.2.2.2.1 C.2.2.2.2.2.2.1 (sub_of_map hP isC hC) (hD.sub isC hnd hC)⟩ rfl hn h.1 rfl (lv_room hcat) hd ⟨hroom.1, hroom.2⟩) hS (fun q _ hq => hFc q hq) hFc (fun r1 u t H1 l1 ht hvm hw hB hz hk hS1 => by
    subst hw
    obtain ⟨hP1, hK1, hD1⟩ := hB
    rw [ht] at hP1
    obtain ⟨hP2, hD2⟩ := world_upd hP hD isC hC hC' isR hlen hcov hR' hadr hk hP1
    exact kk H1 l1 ls hP2 hD2 hS1 h)
theorem r_callSN_v (C : CX p s m args c nL cc own Ts D tys A) {y : MethodName} {wsC wsC' : List Cond} {bytes : ByteArray} {maxL n idx : Nat} {ret : Option FieldType} {rm : Room} {As rest : List Value} {wc wd ws' : va_W} (hM : ∀ sz, Met l y wsC rm (PCx D tys As wc sz) (QV D tys wc sz wd) 0 0 (va_A wc sz)) (hG : GoodIn Ts wsC) (kn : Nat) (hnw : nwL[kn]? = some (own, idx, y)) (hini : Cond.initialized y.cls ∈ Ts) (hstt : Cond.static y ∈ Ts) (hwc : wsC = Cond.code y bytes maxL ret :: wsC') (hy : y.cls ≠ "java/lang/invoke/MethodHandle" ∧ y.cls ≠ "java/lang/invoke/VarHandle" ∧ (parseMethodDescriptor y.desc).map (fun d => d.parameters.length) = some n) (hR : rm.cells = 0 ∧ rm.slots = 0 ∧ rm.frames + 1 ≤ R.frames ∧ 8 + (maxL + 11) + rm.locals ≤ R.locals) (hn : As.length = n) (isC : List Nat) (hnd : va_nd isC = true) (hC : isC.map (fun i => ws[i]?) = wc.map some) (isR : List Nat) {nw : Nat} (hlen : ws.length = nw) (hcov : (List.range nw).all (fun i => isC.contains i || isR.contains i) = true) (hC' : isC.map (fun i => ws'[i]?) = wd.map some) (hR' : isR.map (fun i => ws'[i]?) = isR.map (fun i => ws[i]?)) (hadr : ws'.map Prod.fst = ws.map Prod.fst) (hst : st = As.reverse ++ rest) (hcat : (rest.map fun v => v.category).sum ≤ 8) (hroom : cells ≤ R.cells ∧ slots ≤ R.slots) (hd : decode cc pc = .ok (.invokestatic idx, 3)) (kk : ST p l e R s m args below meth c nL D A Q cells slots ws' (pc + 3) lv (rest)) : ST p l e R s m args below meth c nL D A Q cells slots ws pc lv st := by
  intro H locs ls hP hD hS h
  subst hst
  have hFc := va_free hD hS C.2.2.2.2.2.2.2 isC hC
  exact va_callv (va_runSN (As := As) (rest := rest) ⟨C.1, C.2.1, C.2.2.1, C.2.2.2.1, C.2.2.2.2.1⟩ (hM H.size) ⟨va_cnB n C.2.2.2.2.1 hG hwc hR.1 hR.2.1 (C.2.2.2.2.2.2.1.at kn hnw) (C.2.2.2.2.1 _ hini) hy hR.2.2, C.2.2.2.2.1 _ hstt, trivial⟩ ⟨PCx.blind, PCx.go (av := As) (ws := ws) C.2.2.2.2.2.1 C.2.2.2.2.2.2.1 (sub_of_map hP isC hC) (hD.sub isC hnd hC)⟩ rfl hn h.1 rfl (lv_room hcat) hd ⟨hroom.1, hroom.2⟩) hS (fun q _ hq => hFc q hq) hFc (fun u t H1 l1 ht hvm hw hB hz hk hS1 => by
    obtain ⟨hP1, hK1, hD1⟩ := hB
    rw [ht] at hP1
    obtain ⟨hP2, hD2⟩ := world_upd hP hD isC hC hC' isR hlen hcov hR' hadr hk hP1
    exact kk H1 l1 ls hP2 hD2 hS1 h)
theorem r_roV_i (C : CX p s m args c nL cc own Ts D tys A) {y : MethodName} {wsC wsC' : List Cond} {bytes : ByteArray} {maxL n idx : Nat} {ret : Option FieldType} {rm : Room} {Cn : String} {b : Nat} {As rest : List Value} {wc : va_W} {r : Int32} (hM : ∀ sz, Met l y wsC rm (PCx D tys (.ref b :: As) wc sz) (QI D tys wc sz r wc) 0 0 (va_A wc sz)) (hG : GoodIn Ts (wsV own idx Cn y wsC)) (hwc : wsC = Cond.code y bytes maxL ret :: wsC') (hy : y.cls = Cn ∧ y.cls ≠ "java/lang/invoke/MethodHandle" ∧ y.cls ≠ "java/lang/invoke/VarHandle" ∧ (parseMethodDescriptor y.desc).map (fun d => d.parameters.length) = some n) (hR : rm.cells = 0 ∧ rm.slots = 0 ∧ rm.frames + 1 ≤ R.frames ∧ 8 + (maxL + 11) + rm.locals ≤ R.locals) (hn : As.length = n) (q0 : Nat) {ci N : Nat} {T : u_T} {fs : List Value} (he : ws[q0]? = some (b, .inr (ci, fs))) (hcl : vwCl[ci]? = some (Cn, T, N)) (isC : List Nat) (hnd : va_nd isC = true) (hC : isC.map (fun i => ws[i]?) = wc.map some) (hst : st = As.reverse ++ .ref b :: rest) (hcat : (rest.map fun v => v.category).sum ≤ 8) (hroom : cells ≤ R.cells ∧ slots ≤ R.slots) (hd : decode cc pc = .ok (.invokevirtual idx, 3)) (kk : ST p l e R s m args below meth c nL D A Q cells slots ws (pc + 3) lv (.int r :: rest)) : ST p l e R s m args below meth c nL D A Q cells slots ws pc lv st := by
  intro H locs ls hP hD hS h
  subst hst
  have hFc := va_free hD hS C.2.2.2.2.2.2.2 isC hC
  exact va_calli (va_runV (As := As) (rest := rest) ⟨C.1, C.2.1, C.2.2.1, C.2.2.2.1, C.2.2.2.2.1⟩ (hM H.size) (cwV n C.2.2.2.2.1 hG hwc hR.1 hR.2.1 hy hR.2.2) ⟨PCx.blind, va_recv C.2.2.2.2.2.1 hP hcl he, PCx.go (av := .ref b :: As) (ws := ws) C.2.2.2.2.2.1 C.2.2.2.2.2.2.1 (sub_of_map hP isC hC) (hD.sub isC hnd hC)⟩ rfl hn h.1 rfl (lv_room hcat) hd ⟨hroom.1, hroom.2⟩) hS (fun q _ hq => hFc q hq) hFc (fun r1 u t H1 l1 ht hvm hw hB hz hk hS1 => by
    subst hw
    obtain ⟨hP1, hK1, hD1⟩ := hB
    rw [ht] at hP1
    obtain ⟨hP2, hD2⟩ := world_upd hP hD isC hC hC ((List.range ws.length).filter (fun i => !isC.contains i)) rfl (List.all_eq_true.mpr (fun i hi => by by_cases hm : i ∈ isC <;> simp [hm, List.mem_range.mp hi])) rfl rfl hk hP1
    exact kk H1 l1 ls hP2 hD2 hS1 h)
theorem r_roV_l (C : CX p s m args c nL cc own Ts D tys A) {y : MethodName} {wsC wsC' : List Cond} {bytes : ByteArray} {maxL n idx : Nat} {ret : Option FieldType} {rm : Room} {Cn : String} {b : Nat} {As rest : List Value} {wc : va_W} {r : Int64} (hM : ∀ sz, Met l y wsC rm (PCx D tys (.ref b :: As) wc sz) (QL D tys wc sz r wc) 0 0 (va_A wc sz)) (hG : GoodIn Ts (wsV own idx Cn y wsC)) (hwc : wsC = Cond.code y bytes maxL ret :: wsC') (hy : y.cls = Cn ∧ y.cls ≠ "java/lang/invoke/MethodHandle" ∧ y.cls ≠ "java/lang/invoke/VarHandle" ∧ (parseMethodDescriptor y.desc).map (fun d => d.parameters.length) = some n) (hR : rm.cells = 0 ∧ rm.slots = 0 ∧ rm.frames + 1 ≤ R.frames ∧ 8 + (maxL + 11) + rm.locals ≤ R.locals) (hn : As.length = n) (q0 : Nat) {ci N : Nat} {T : u_T} {fs : List Value} (he : ws[q0]? = some (b, .inr (ci, fs))) (hcl : vwCl[ci]? = some (Cn, T, N)) (isC : List Nat) (hnd : va_nd isC = true) (hC : isC.map (fun i => ws[i]?) = wc.map some) (hst : st = As.reverse ++ .ref b :: rest) (hcat : (rest.map fun v => v.category).sum ≤ 8) (hroom : cells ≤ R.cells ∧ slots ≤ R.slots) (hd : decode cc pc = .ok (.invokevirtual idx, 3)) (kk : ST p l e R s m args below meth c nL D A Q cells slots ws (pc + 3) lv (.long r :: rest)) : ST p l e R s m args below meth c nL D A Q cells slots ws pc lv st := by
  intro H locs ls hP hD hS h
  subst hst
  have hFc := va_free hD hS C.2.2.2.2.2.2.2 isC hC
  exact va_calll (va_runV (As := As) (rest := rest) ⟨C.1, C.2.1, C.2.2.1, C.2.2.2.1, C.2.2.2.2.1⟩ (hM H.size) (cwV n C.2.2.2.2.1 hG hwc hR.1 hR.2.1 hy hR.2.2) ⟨PCx.blind, va_recv C.2.2.2.2.2.1 hP hcl he, PCx.go (av := .ref b :: As) (ws := ws) C.2.2.2.2.2.1 C.2.2.2.2.2.2.1 (sub_of_map hP isC hC) (hD.sub isC hnd hC)⟩ rfl hn h.1 rfl (lv_room hcat) hd ⟨hroom.1, hroom.2⟩) hS (fun q _ hq => hFc q hq) hFc (fun r1 u t H1 l1 ht hvm hw hB hz hk hS1 => by
    subst hw
    obtain ⟨hP1, hK1, hD1⟩ := hB
    rw [ht] at hP1
    obtain ⟨hP2, hD2⟩ := world_upd hP hD isC hC hC ((List.range ws.length).filter (fun i => !isC.contains i)) rfl (List.all_eq_true.mpr (fun i hi => by by_cases hm : i ∈ isC <;> simp [hm, List.mem_range.mp hi])) rfl rfl hk hP1
    exact kk H1 l1 ls hP2 hD2 hS1 h)
theorem r_roV_v (C : CX p s m args c nL cc own Ts D tys A) {y : MethodName} {wsC wsC' : List Cond} {bytes : ByteArray} {maxL n idx : Nat} {ret : Option FieldType} {rm : Room} {Cn : String} {b : Nat} {As rest : List Value} {wc : va_W} (hM : ∀ sz, Met l y wsC rm (PCx D tys (.ref b :: As) wc sz) (QV D tys wc sz wc) 0 0 (va_A wc sz)) (hG : GoodIn Ts (wsV own idx Cn y wsC)) (hwc : wsC = Cond.code y bytes maxL ret :: wsC') (hy : y.cls = Cn ∧ y.cls ≠ "java/lang/invoke/MethodHandle" ∧ y.cls ≠ "java/lang/invoke/VarHandle" ∧ (parseMethodDescriptor y.desc).map (fun d => d.parameters.length) = some n) (hR : rm.cells = 0 ∧ rm.slots = 0 ∧ rm.frames + 1 ≤ R.frames ∧ 8 + (maxL + 11) + rm.locals ≤ R.locals) (hn : As.length = n) (q0 : Nat) {ci N : Nat} {T : u_T} {fs : List Value} (he : ws[q0]? = some (b, .inr (ci, fs))) (hcl : vwCl[ci]? = some (Cn, T, N)) (isC : List Nat) (hnd : va_nd isC = true) (hC : isC.map (fun i => ws[i]?) = wc.map some) (hst : st = As.reverse ++ .ref b :: rest) (hcat : (rest.map fun v => v.category).sum ≤ 8) (hroom : cells ≤ R.cells ∧ slots ≤ R.slots) (hd : decode cc pc = .ok (.invokevirtual idx, 3)) (kk : ST p l e R s m args below meth c nL D A Q cells slots ws (pc + 3) lv (rest)) : ST p l e R s m args below meth c nL D A Q cells slots ws pc lv st := by
  intro H locs ls hP hD hS h
  subst hst
  have hFc := va_free hD hS C.2.2.2.2.2.2.2 isC hC
  exact va_callv (va_runV (As := As) (rest := rest) ⟨C.1, C.2.1, C.2.2.1, C.2.2.2.1, C.2.2.2.2.1⟩ (hM H.size) (cwV n C.2.2.2.2.1 hG hwc hR.1 hR.2.1 hy hR.2.2) ⟨PCx.blind, va_recv C.2.2.2.2.2.1 hP hcl he, PCx.go (av := .ref b :: As) (ws := ws) C.2.2.2.2.2.1 C.2.2.2.2.2.2.1 (sub_of_map hP isC hC) (hD.sub isC hnd hC)⟩ rfl hn h.1 rfl (lv_room hcat) hd ⟨hroom.1, hroom.2⟩) hS (fun q _ hq => hFc q hq) hFc (fun u t H1 l1 ht hvm hw hB hz hk hS1 => by
    obtain ⟨hP1, hK1, hD1⟩ := hB
    rw [ht] at hP1
    obtain ⟨hP2, hD2⟩ := world_upd hP hD isC hC hC ((List.range ws.length).filter (fun i => !isC.contains i)) rfl (List.all_eq_true.mpr (fun i hi => by by_cases hm : i ∈ isC <;> simp [hm, List.mem_range.mp hi])) rfl rfl hk hP1
    exact kk H1 l1 ls hP2 hD2 hS1 h)
theorem r_roS_i (C : CX p s m args c nL cc own Ts D tys A) {y : MethodName} {wsC wsC' : List Cond} {bytes : ByteArray} {maxL n idx : Nat} {ret : Option FieldType} {rm : Room} {As rest : List Value} {wc : va_W} {r : Int32} (hM : ∀ sz, Met l y wsC rm (PCx D tys As wc sz) (QI D tys wc sz r wc) 0 0 (va_A wc sz)) (hG : GoodIn Ts (va_wsS own idx y wsC)) (hwc : wsC = Cond.code y bytes maxL ret :: wsC') (hy : y.cls ≠ "java/lang/invoke/MethodHandle" ∧ y.cls ≠ "java/lang/invoke/VarHandle" ∧ (parseMethodDescriptor y.desc).map (fun d => d.parameters.length) = some n) (hR : rm.cells = 0 ∧ rm.slots = 0 ∧ rm.frames + 1 ≤ R.frames ∧ 8 + (maxL + 11) + rm.locals ≤ R.locals) (hn : As.length = n) (isC : List Nat) (hnd : va_nd isC = true) (hC : isC.map (fun i => ws[i]?) = wc.map some) (hst : st = As.reverse ++ rest) (hcat : (rest.map fun v => v.category).sum ≤ 8) (hroom : cells ≤ R.cells ∧ slots ≤ R.slots) (hd : decode cc pc = .ok (.invokestatic idx, 3)) (kk : ST p l e R s m args below meth c nL D A Q cells slots ws (pc + 3) lv (.int r :: rest)) : ST p l e R s m args below meth c nL D A Q cells slots ws pc lv st := by
  intro H locs ls hP hD hS h
  subst hst
  have hFc := va_free hD hS C.2.2.2.2.2.2.2 isC hC
  exact va_calli (va_runS (As := As) (rest := rest) ⟨C.1, C.2.1, C.2.2.1, C.2.2.2.1, C.2.2.2.2.1⟩ (hM H.size) (va_cwS n C.2.2.2.2.1 hG hwc hR.1 hR.2.1 hy hR.2.2) ⟨PCx.blind, PCx.go (av := As) (ws := ws) C.2.2.2.2.2.1 C.2.2.2.2.2.2.1 (sub_of_map hP isC hC) (hD.sub isC hnd hC)⟩ rfl hn h.1 rfl (lv_room hcat) hd ⟨hroom.1, hroom.2⟩) hS (fun q _ hq => hFc q hq) hFc (fun r1 u t H1 l1 ht hvm hw hB hz hk hS1 => by
    subst hw
    obtain ⟨hP1, hK1, hD1⟩ := hB
    rw [ht] at hP1
    obtain ⟨hP2, hD2⟩ := world_upd hP hD isC hC hC ((List.range ws.length).filter (fun i => !isC.contains i)) rfl (List.all_eq_true.mpr (fun i hi => by by_cases hm : i ∈ isC <;> simp [hm, List.mem_range.mp hi])) rfl rfl hk hP1
    exact kk H1 l1 ls hP2 hD2 hS1 h)
theorem r_roS_l (C : CX p s m args c nL cc own Ts D tys A) {y : MethodName} {wsC wsC' : List Cond} {bytes : ByteArray} {maxL n idx : Nat} {ret : Option FieldType} {rm : Room} {As rest : List Value} {wc : va_W} {r : Int64} (hM : ∀ sz, Met l y wsC rm (PCx D tys As wc sz) (QL D tys wc sz r wc) 0 0 (va_A wc sz)) (hG : GoodIn Ts (va_wsS own idx y wsC)) (hwc : wsC = Cond.code y bytes maxL ret :: wsC') (hy : y.cls ≠ "java/lang/invoke/MethodHandle" ∧ y.cls ≠ "java/lang/invoke/VarHandle" ∧ (parseMethodDescriptor y.desc).map (fun d => d.parameters.length) = some n) (hR : rm.cells = 0 ∧ rm.slots = 0 ∧ rm.frames + 1 ≤ R.frames ∧ 8 + (maxL + 11) + rm.locals ≤ R.locals) (hn : As.length = n) (isC : List Nat) (hnd : va_nd isC = true) (hC : isC.map (fun i => ws[i]?) = wc.map some) (hst : st = As.reverse ++ rest) (hcat : (rest.map fun v => v.category).sum ≤ 8) (hroom : cells ≤ R.cells ∧ slots ≤ R.slots) (hd : decode cc pc = .ok (.invokestatic idx, 3)) (kk : ST p l e R s m args below meth c nL D A Q cells slots ws (pc + 3) lv (.long r :: rest)) : ST p l e R s m args below meth c nL D A Q cells slots ws pc lv st := by
  intro H locs ls hP hD hS h
  subst hst
  have hFc := va_free hD hS C.2.2.2.2.2.2.2 isC hC
  exact va_calll (va_runS (As := As) (rest := rest) ⟨C.1, C.2.1, C.2.2.1, C.2.2.2.1, C.2.2.2.2.1⟩ (hM H.size) (va_cwS n C.2.2.2.2.1 hG hwc hR.1 hR.2.1 hy hR.2.2) ⟨PCx.blind, PCx.go (av := As) (ws := ws) C.2.2.2.2.2.1 C.2.2.2.2.2.2.1 (sub_of_map hP isC hC) (hD.sub isC hnd hC)⟩ rfl hn h.1 rfl (lv_room hcat) hd ⟨hroom.1, hroom.2⟩) hS (fun q _ hq => hFc q hq) hFc (fun r1 u t H1 l1 ht hvm hw hB hz hk hS1 => by
    subst hw
    obtain ⟨hP1, hK1, hD1⟩ := hB
    rw [ht] at hP1
    obtain ⟨hP2, hD2⟩ := world_upd hP hD isC hC hC ((List.range ws.length).filter (fun i => !isC.contains i)) rfl (List.all_eq_true.mpr (fun i hi => by by_cases hm : i ∈ isC <;> simp [hm, List.mem_range.mp hi])) rfl rfl hk hP1
    exact kk H1 l1 ls hP2 hD2 hS1 h)
theorem r_roS_v (C : CX p s m args c nL cc own Ts D tys A) {y : MethodName} {wsC wsC' : List Cond} {bytes : ByteArray} {maxL n idx : Nat} {ret : Option FieldType} {rm : Room} {As rest : List Value} {wc : va_W} (hM : ∀ sz, Met l y wsC rm (PCx D tys As wc sz) (QV D tys wc sz wc) 0 0 (va_A wc sz)) (hG : GoodIn Ts (va_wsS own idx y wsC)) (hwc : wsC = Cond.code y bytes maxL ret :: wsC') (hy : y.cls ≠ "java/lang/invoke/MethodHandle" ∧ y.cls ≠ "java/lang/invoke/VarHandle" ∧ (parseMethodDescriptor y.desc).map (fun d => d.parameters.length) = some n) (hR : rm.cells = 0 ∧ rm.slots = 0 ∧ rm.frames + 1 ≤ R.frames ∧ 8 + (maxL + 11) + rm.locals ≤ R.locals) (hn : As.length = n) (isC : List Nat) (hnd : va_nd isC = true) (hC : isC.map (fun i => ws[i]?) = wc.map some) (hst : st = As.reverse ++ rest) (hcat : (rest.map fun v => v.category).sum ≤ 8) (hroom : cells ≤ R.cells ∧ slots ≤ R.slots) (hd : decode cc pc = .ok (.invokestatic idx, 3)) (kk : ST p l e R s m args below meth c nL D A Q cells slots ws (pc + 3) lv (rest)) : ST p l e R s m args below meth c nL D A Q cells slots ws pc lv st := by
  intro H locs ls hP hD hS h
  subst hst
  have hFc := va_free hD hS C.2.2.2.2.2.2.2 isC hC
  exact va_callv (va_runS (As := As) (rest := rest) ⟨C.1, C.2.1, C.2.2.1, C.2.2.2.1, C.2.2.2.2.1⟩ (hM H.size) (va_cwS n C.2.2.2.2.1 hG hwc hR.1 hR.2.1 hy hR.2.2) ⟨PCx.blind, PCx.go (av := As) (ws := ws) C.2.2.2.2.2.1 C.2.2.2.2.2.2.1 (sub_of_map hP isC hC) (hD.sub isC hnd hC)⟩ rfl hn h.1 rfl (lv_room hcat) hd ⟨hroom.1, hroom.2⟩) hS (fun q _ hq => hFc q hq) hFc (fun u t H1 l1 ht hvm hw hB hz hk hS1 => by
    obtain ⟨hP1, hK1, hD1⟩ := hB
    rw [ht] at hP1
    obtain ⟨hP2, hD2⟩ := world_upd hP hD isC hC hC ((List.range ws.length).filter (fun i => !isC.contains i)) rfl (List.all_eq_true.mpr (fun i hi => by by_cases hm : i ∈ isC <;> simp [hm, List.mem_range.mp hi])) rfl rfl hk hP1
    exact kk H1 l1 ls hP2 hD2 hS1 h)
theorem r_roSN_i (C : CX p s m args c nL cc own Ts D tys A) {y : MethodName} {wsC wsC' : List Cond} {bytes : ByteArray} {maxL n idx : Nat} {ret : Option FieldType} {rm : Room} {As rest : List Value} {wc : va_W} {r : Int32} (hM : ∀ sz, Met l y wsC rm (PCx D tys As wc sz) (QI D tys wc sz r wc) 0 0 (va_A wc sz)) (hG : GoodIn Ts wsC) (kn : Nat) (hnw : nwL[kn]? = some (own, idx, y)) (hini : Cond.initialized y.cls ∈ Ts) (hstt : Cond.static y ∈ Ts) (hwc : wsC = Cond.code y bytes maxL ret :: wsC') (hy : y.cls ≠ "java/lang/invoke/MethodHandle" ∧ y.cls ≠ "java/lang/invoke/VarHandle" ∧ (parseMethodDescriptor y.desc).map (fun d => d.parameters.length) = some n) (hR : rm.cells = 0 ∧ rm.slots = 0 ∧ rm.frames + 1 ≤ R.frames ∧ 8 + (maxL + 11) + rm.locals ≤ R.locals) (hn : As.length = n) (isC : List Nat) (hnd : va_nd isC = true) (hC : isC.map (fun i => ws[i]?) = wc.map some) (hst : st = As.reverse ++ rest) (hcat : (rest.map fun v => v.category).sum ≤ 8) (hroom : cells ≤ R.cells ∧ slots ≤ R.slots) (hd : decode cc pc = .ok (.invokestatic idx, 3)) (kk : ST p l e R s m args below meth c nL D A Q cells slots ws (pc + 3) lv (.int r :: rest)) : ST p l e R s m args below meth c nL D A Q cells slots ws pc lv st := by
  intro H locs ls hP hD hS h
  subst hst
  have hFc := va_free hD hS C.2.2.2.2.2.2.2 isC hC
  exact va_calli (va_runSN (As := As) (rest := rest) ⟨C.1, C.2.1, C.2.2.1, C.2.2.2.1, C.2.2.2.2.1⟩ (hM H.size) ⟨va_cnB n C.2.2.2.2.1 hG hwc hR.1 hR.2.1 (C.2.2.2.2.2.2.1.at kn hnw) (C.2.2.2.2.1 _ hini) hy hR.2.2, C.2.2.2.2.1 _ hstt, trivial⟩ ⟨PCx.blind, PCx.go (av := As) (ws := ws) C.2.2.2.2.2.1 C.2.2.2.2.2.2.1 (sub_of_map hP isC hC) (hD.sub isC hnd hC)⟩ rfl hn h.1 rfl (lv_room hcat) hd ⟨hroom.1, hroom.2⟩) hS (fun q _ hq => hFc q hq) hFc (fun r1 u t H1 l1 ht hvm hw hB hz hk hS1 => by
    subst hw
    obtain ⟨hP1, hK1, hD1⟩ := hB
    rw [ht] at hP1
    obtain ⟨hP2, hD2⟩ := world_upd hP hD isC hC hC ((List.range ws.length).filter (fun i => !isC.contains i)) rfl (List.all_eq_true.mpr (fun i hi => by by_cases hm : i ∈ isC <;> simp [hm, List.mem_range.mp hi])) rfl rfl hk hP1
    exact kk H1 l1 ls hP2 hD2 hS1 h)
theorem r_roSN_l (C : CX p s m args c nL cc own Ts D tys A) {y : MethodName} {wsC wsC' : List Cond} {bytes : ByteArray} {maxL n idx : Nat} {ret : Option FieldType} {rm : Room} {As rest : List Value} {wc : va_W} {r : Int64} (hM : ∀ sz, Met l y wsC rm (PCx D tys As wc sz) (QL D tys wc sz r wc) 0 0 (va_A wc sz)) (hG : GoodIn Ts wsC) (kn : Nat) (hnw : nwL[kn]? = some (own, idx, y)) (hini : Cond.initialized y.cls ∈ Ts) (hstt : Cond.static y ∈ Ts) (hwc : wsC = Cond.code y bytes maxL ret :: wsC') (hy : y.cls ≠ "java/lang/invoke/MethodHandle" ∧ y.cls ≠ "java/lang/invoke/VarHandle" ∧ (parseMethodDescriptor y.desc).map (fun d => d.parameters.length) = some n) (hR : rm.cells = 0 ∧ rm.slots = 0 ∧ rm.frames + 1 ≤ R.frames ∧ 8 + (maxL + 11) + rm.locals ≤ R.locals) (hn : As.length = n) (isC : List Nat) (hnd : va_nd isC = true) (hC : isC.map (fun i => ws[i]?) = wc.map some) (hst : st = As.reverse ++ rest) (hcat : (rest.map fun v => v.category).sum ≤ 8) (hroom : cells ≤ R.cells ∧ slots ≤ R.slots) (hd : decode cc pc = .ok (.invokestatic idx, 3)) (kk : ST p l e R s m args below meth c nL D A Q cells slots ws (pc + 3) lv (.long r :: rest)) : ST p l e R s m args below meth c nL D A Q cells slots ws pc lv st := by
  intro H locs ls hP hD hS h
  subst hst
  have hFc := va_free hD hS C.2.2.2.2.2.2.2 isC hC
  exact va_calll (va_runSN (As := As) (rest := rest) ⟨C.1, C.2.1, C.2.2.1, C.2.2.2.1, C.2.2.2.2.1⟩ (hM H.size) ⟨va_cnB n C.2.2.2.2.1 hG hwc hR.1 hR.2.1 (C.2.2.2.2.2.2.1.at kn hnw) (C.2.2.2.2.1 _ hini) hy hR.2.2, C.2.2.2.2.1 _ hstt, trivial⟩ ⟨PCx.blind, PCx.go (av := As) (ws := ws) C.2.2.2.2.2.1 C.2.2.2.2.2.2.1 (sub_of_map hP isC hC) (hD.sub isC hnd hC)⟩ rfl hn h.1 rfl (lv_room hcat) hd ⟨hroom.1, hroom.2⟩) hS (fun q _ hq => hFc q hq) hFc (fun r1 u t H1 l1 ht hvm hw hB hz hk hS1 => by
    subst hw
    obtain ⟨hP1, hK1, hD1⟩ := hB
    rw [ht] at hP1
    obtain ⟨hP2, hD2⟩ := world_upd hP hD isC hC hC ((List.range ws.length).filter (fun i => !isC.contains i)) rfl (List.all_eq_true.mpr (fun i hi => by by_cases hm : i ∈ isC <;> simp [hm, List.mem_range.mp hi])) rfl rfl hk hP1
    exact kk H1 l1 ls hP2 hD2 hS1 h)
theorem r_roSN_v (C : CX p s m args c nL cc own Ts D tys A) {y : MethodName} {wsC wsC' : List Cond} {bytes : ByteArray} {maxL n idx : Nat} {ret : Option FieldType} {rm : Room} {As rest : List Value} {wc : va_W} (hM : ∀ sz, Met l y wsC rm (PCx D tys As wc sz) (QV D tys wc sz wc) 0 0 (va_A wc sz)) (hG : GoodIn Ts wsC) (kn : Nat) (hnw : nwL[kn]? = some (own, idx, y)) (hini : Cond.initialized y.cls ∈ Ts) (hstt : Cond.static y ∈ Ts) (hwc : wsC = Cond.code y bytes maxL ret :: wsC') (hy : y.cls ≠ "java/lang/invoke/MethodHandle" ∧ y.cls ≠ "java/lang/invoke/VarHandle" ∧ (parseMethodDescriptor y.desc).map (fun d => d.parameters.length) = some n) (hR : rm.cells = 0 ∧ rm.slots = 0 ∧ rm.frames + 1 ≤ R.frames ∧ 8 + (maxL + 11) + rm.locals ≤ R.locals) (hn : As.length = n) (isC : List Nat) (hnd : va_nd isC = true) (hC : isC.map (fun i => ws[i]?) = wc.map some) (hst : st = As.reverse ++ rest) (hcat : (rest.map fun v => v.category).sum ≤ 8) (hroom : cells ≤ R.cells ∧ slots ≤ R.slots) (hd : decode cc pc = .ok (.invokestatic idx, 3)) (kk : ST p l e R s m args below meth c nL D A Q cells slots ws (pc + 3) lv (rest)) : ST p l e R s m args below meth c nL D A Q cells slots ws pc lv st := by
  intro H locs ls hP hD hS h
  subst hst
  have hFc := va_free hD hS C.2.2.2.2.2.2.2 isC hC
  exact va_callv (va_runSN (As := As) (rest := rest) ⟨C.1, C.2.1, C.2.2.1, C.2.2.2.1, C.2.2.2.2.1⟩ (hM H.size) ⟨va_cnB n C.2.2.2.2.1 hG hwc hR.1 hR.2.1 (C.2.2.2.2.2.2.1.at kn hnw) (C.2.2.2.2.1 _ hini) hy hR.2.2, C.2.2.2.2.1 _ hstt, trivial⟩ ⟨PCx.blind, PCx.go (av := As) (ws := ws) C.2.2.2.2.2.1 C.2.2.2.2.2.2.1 (sub_of_map hP isC hC) (hD.sub isC hnd hC)⟩ rfl hn h.1 rfl (lv_room hcat) hd ⟨hroom.1, hroom.2⟩) hS (fun q _ hq => hFc q hq) hFc (fun u t H1 l1 ht hvm hw hB hz hk hS1 => by
    obtain ⟨hP1, hK1, hD1⟩ := hB
    rw [ht] at hP1
    obtain ⟨hP2, hD2⟩ := world_upd hP hD isC hC hC ((List.range ws.length).filter (fun i => !isC.contains i)) rfl (List.all_eq_true.mpr (fun i hi => by by_cases hm : i ∈ isC <;> simp [hm, List.mem_range.mp hi])) rfl rfl hk hP1
    exact kk H1 l1 ls hP2 hD2 hS1 h)
end STC
