section STA
variable {p : Program} {l : Launch} {e : Env} {R : Room} {s : State} {m : MethodId} {args : Array Value} {below : List Frame} {meth : Method} {c : Code} {nL : Nat} {cc : ByteArray} {own : String} {Ts : List Cond} {D : va_G} {cyI cyZ cyW : ClassId} {A : Nat → Prop} {Q : State → Prop} {cells slots : Nat} {ws : va_W} {pc : Nat} {lv : LV} {st : List Value}
theorem r_newi (C : CX p s m args c nL cc own Ts D (tyG cyI cyZ cyW) A) {n : Int32} {N : Nat} (harr : Cond.arrayClass .int ∈ Ts) (hn : ¬ n < 0) (hN : n.toNatClampNeg = N) (hby : N * componentBytes .int ≤ 536870912) (hc : cells + 1 ≤ R.cells) (hs : slots + N ≤ R.slots) (hd : decode cc pc = .ok (.newarray .int, 2)) (kk : ∀ q : Nat, ST p l e R s m args below meth c nL D A Q (cells + 1) (slots + N) (ws ++ [(q, .inl (cyI, N, .inl (fun _ => 0)))]) (pc + 2) lv (.ref q :: st)) : ST p l e R s m args below meth c nL D A Q (cells) (slots) (ws) (pc) lv (.int n :: st) := by
  intro H locs ls hP hD hS h
  refine va_newa (atype := .int) (a0 := (N, .inl (fun _ => 0))) C.1 C.2.1 (C.2.2.2.2.1 _ harr) rfl C.2.2.2.2.2.1 hP hD hS C.2.2.2.2.2.2.2 (fun _ => rfl) hn hN hby hc hs hd (fun q cA H1 hK1 hP1 hD1 hS1 => ?_)
  have e1 := va_nm_int (hK1.2 3 (cA, .int) rfl).2
  have e2 := va_nm_int (C.2.2.2.2.2.1.2 0 (cyI, .int) rfl).2
  have e3 : cA = cyI := Option.some.inj (e1.symm.trans e2)
  subst e3
  exact kk q H1 locs ls hP1 hD1 hS1 h
theorem r_newz (C : CX p s m args c nL cc own Ts D (tyG cyI cyZ cyW) A) {n : Int32} {N : Nat} (harr : Cond.arrayClass .boolean ∈ Ts) (hn : ¬ n < 0) (hN : n.toNatClampNeg = N) (hby : N * componentBytes .boolean ≤ 536870912) (hc : cells + 1 ≤ R.cells) (hs : slots + N ≤ R.slots) (hd : decode cc pc = .ok (.newarray .boolean, 2)) (kk : ∀ q : Nat, ST p l e R s m args below meth c nL D A Q (cells + 1) (slots + N) (ws ++ [(q, .inl (cyZ, N, .inl (fun _ => 0)))]) (pc + 2) lv (.ref q :: st)) : ST p l e R s m args below meth c nL D A Q (cells) (slots) (ws) (pc) lv (.int n :: st) := by
  intro H locs ls hP hD hS h
  refine va_newa (atype := .boolean) (a0 := (N, .inl (fun _ => 0))) C.1 C.2.1 (C.2.2.2.2.1 _ harr) rfl C.2.2.2.2.2.1 hP hD hS C.2.2.2.2.2.2.2 (fun _ => rfl) hn hN hby hc hs hd (fun q cA H1 hK1 hP1 hD1 hS1 => ?_)
  have e1 := va_nm_boolean (hK1.2 3 (cA, .boolean) rfl).2
  have e2 := va_nm_boolean (C.2.2.2.2.2.1.2 1 (cyZ, .boolean) rfl).2
  have e3 : cA = cyZ := Option.some.inj (e1.symm.trans e2)
  subst e3
  exact kk q H1 locs ls hP1 hD1 hS1 h
theorem r_newq (C : CX p s m args c nL cc own Ts D (tyG cyI cyZ cyW) A) {n : Int32} {N index : Nat} (hcl : Cond.classLink own index RX7 ∈ Ts) (hn : ¬ n < 0) (hN : n.toNatClampNeg = N) (hby : N * 4 ≤ 536870912) (hc : cells + 1 ≤ R.cells) (hs : slots + N ≤ R.slots) (hd : decode cc pc = .ok (.anewarray index, 3)) (kk : ∀ q : Nat, ST p l e R s m args below meth c nL D A Q (cells + 1) (slots + N) (ws ++ [(q, .inl (cyW, N, .inr (.inr (.inr (.inr (fun _ => none))))))]) (pc + 3) lv (.ref q :: st)) : ST p l e R s m args below meth c nL D A Q (cells) (slots) (ws) (pc) lv (.int n :: st) := by
  intro H locs ls hP hD hS h
  refine va_newq C.1 C.2.1 C.2.2.2.1 (C.2.2.2.2.1 _ hcl) C.2.2.2.2.2.2.1.2 C.2.2.2.2.2.1 hP hD hS C.2.2.2.2.2.2.2 hn hN hby hc hs hd (fun q cA H1 hK1 hP1 hD1 hS1 => ?_)
  obtain ⟨k1, m1, -, -, -, e1⟩ := (hK1.2 3 (cA, .object RX7) rfl).2
  obtain ⟨k2, m2, -, -, -, e2⟩ := (C.2.2.2.2.2.1.2 2 (cyW, .object RX7) rfl).2
  have e3 : cA = cyW := Option.some.inj (e1.symm.trans e2)
  subst e3
  exact kk q H1 locs ls hP1 hD1 hS1 h
theorem r_new (C : CX p s m args c nL cc own Ts D (tyG cyI cyZ cyW) A) {Cn : String} {T : u_T} {N ci index : Nat} {fs : List Value} (hin : ∀ w ∈ u_ws Cn T N, w ∈ Ts) (ty : Nat → FieldType) (hty : ∀ k, k < N → parseFieldDescriptor (T k).2.2.1 = some (ty k)) (hcl : Cond.classLink own index Cn ∈ Ts) (hinst : Cond.instantiable Cn N ∈ Ts) (hini : Cond.initialized Cn ∈ Ts) (hci : vwCl[ci]? = some (Cn, T, N)) (hfs : ∀ j, j < N → defaultValue (ty j) = vp_V fs j) (hc : cells + 1 ≤ R.cells) (hs : slots + N ≤ R.slots) (hd : decode cc pc = .ok (.new index, 3)) (kk : ∀ q : Nat, ST p l e R s m args below meth c nL D A Q (cells + 1) (slots + N) (ws ++ [(q, .inr (ci, fs))]) (pc + 3) lv (.ref q :: st)) : ST p l e R s m args below meth c nL D A Q (cells) (slots) (ws) (pc) lv (st) := fun H locs ls hP hD hS h => va_new C.1 C.2.1 C.2.2.2.2.1 hin ty hty C.2.2.2.1 (C.2.2.2.2.1 _ hcl) (C.2.2.2.2.1 _ hinst) (C.2.2.2.2.1 _ hini) C.2.2.2.2.2.1 hP hD hS C.2.2.2.2.2.2.2 hci hfs hc hs hd (fun q H1 hP1 hD1 hS1 => kk q H1 locs ls hP1 hD1 hS1 h)
theorem r_objI (C : CX p s m args c nL cc own Ts D (tyG cyI cyZ cyW) A) {idx a : Nat} (h1 : Cond.methodLink own idx Lib.objectInit ∈ Ts) (h2 : Cond.instanceMethod Lib.objectInit ∈ Ts) (h3 : Cond.code Lib.objectInit ⟨#[0xb1]⟩ 1 none ∈ Ts) (hfr : 1 ≤ R.frames) (hlo : (st.map fun v => v.category).sum + 12 ≤ R.locals) (hd : decode cc pc = .ok (.invokespecial idx, 3)) (kk : ST p l e R s m args below meth c nL D A Q (cells) (slots) (ws) (pc + 3) lv (st)) : ST p l e R s m args below meth c nL D A Q (cells) (slots) (ws) (pc) lv (.ref a :: st) := by
  intro H locs ls hP hD hS h
  refine W.objInit C.1 C.2.1 C.2.2.2.1 (C.2.2.2.2.1 _ h1) (C.2.2.2.2.1 _ h2) (C.2.2.2.2.1 _ h3) rfl (h.1.trans C.2.2.1.symm) rfl hd hfr ?_ (kk H locs ls hP hD hS h)
  show 2 * 0 + _ + 12 ≤ _
  omega
theorem r_astq (C : CX p s m args c nL cc own Ts D (tyG cyI cyZ cyW) A) {a v n ci j : Nat} {r : vw_C} {vs : List Value} {f : Nat → Option Nat} {i : Int32} {ws' : va_W} (q0 qk : Nat) (ha : ws[q0]? = some (a, .inl (cyW, n, .inr (.inr (.inr (.inr f)))))) (hr : r.1 = RX7) (hv : ws[qk]? = some (v, .inr (ci, vs))) (hc : vwCl[ci]? = some r) (hj : vp_in i n ∧ i.toNatClampNeg = j) (hw : ws.set q0 (a, .inl (cyW, n, .inr (.inr (.inr (.inr (va_up f j (some v))))))) = ws') (hd : decode cc pc = .ok (.aastore, 1)) (kk : ST p l e R s m args below meth c nL D A Q (cells) (slots) (ws') (pc + 1) lv (st)) : ST p l e R s m args below meth c nL D A Q (cells) (slots) (ws) (pc) lv (.ref v :: .int i :: .ref a :: st) := fun H locs ls hP hD hS h => va_astq C.1 C.2.1 C.2.2.2.2.2.1 hP hD hS q0 2 qk ci ha (by rw [hr]; rfl) hv hc hj.1 hd (fun H1 l1 hP1 hD1 hS1 => kk H1 l1 ls (by rw [← hw]; rw [hj.2] at hP1; exact hP1) (by rw [← hw]; rw [hj.2] at hD1; exact hD1) hS1 h)
theorem arrq_congr {cA : ClassId} {n : Nat} {f g : Nat → Option Nat} (h : ∀ k, k < n → f k = g k) : vp_cell cA (n, .inr (.inr (.inr (.inr f)))) = vp_cell cA (n, .inr (.inr (.inr (.inr g)))) := by
  rw [vp_cell_q, vp_cell_q]
  unfold arrV
  congr 2
  funext j
  show va_rf (f j) = va_rf (g j)
  rw [h j.val j.isLt]
theorem ST_rq {a n : Nat} {cA : ClassId} {f g : Nat → Option Nat} {ws' : va_W} (q0 : Nat) (ha : ws[q0]? = some (a, .inl (cA, n, .inr (.inr (.inr (.inr f)))))) (hfg : ∀ k, k < n → f k = g k) (hw : ws.set q0 (a, .inl (cA, n, .inr (.inr (.inr (.inr g))))) = ws') (kk : ST p l e R s m args below meth c nL D A Q (cells) (slots) (ws') (pc) lv (st)) : ST p l e R s m args below meth c nL D A Q (cells) (slots) (ws) (pc) lv (st) := by
  intro H locs ls hP hD hS h
  refine kk H locs ls ?_ ?_ hS h
  · rw [← hw]
    intro k q hq
    by_cases hk : q0 = k
    · subst hk
      rw [List.getElem?_set_self (List.getElem?_eq_some_iff.mp ha).1] at hq
      cases hq
      have h1 : H[a]? = some (vp_cell cA (n, .inr (.inr (.inr (.inr f))))) := hP q0 _ ha
      show H[a]? = some (vp_cell cA (n, .inr (.inr (.inr (.inr g)))))
      rw [h1, arrq_congr hfg]
    · rw [List.getElem?_set_ne hk] at hq
      exact hP k q hq
  · rw [← hw]
    exact hD.set ha
theorem ST_sub {ws' : va_W} (is : List Nat) (hn : va_nd is = true) (hs : is.map (fun i => ws[i]?) = ws'.map some) (kk : ST p l e R s m args below meth c nL D A Q (cells) (slots) (ws') (pc) lv (st)) : ST p l e R s m args below meth c nL D A Q (cells) (slots) (ws) (pc) lv (st) := fun H locs ls hP hD hS h => kk H locs ls (sub_of_map hP is hs) (hD.sub is hn hs) hS h
end STA
abbrev QN (D : va_G) (tys : List (ClassId × FieldType)) (w0 : va_W) (sz : Nat) (wo : (Nat → Nat) → va_W) : Array Value → State → Outcome → State → Prop := va_Qv (fun (_ : Nat → Nat) => True) (fun u t => va_P D vwCl (wo u) t.heap ∧ va_K D vwCl tys t ∧ va_D (va_A w0 sz) (wo u)) (va_A w0 sz)
abbrev QA (D : va_G) (tys : List (ClassId × FieldType)) (w0 : va_W) (sz : Nat) (wo : Nat → va_W) : Array Value → State → Outcome → State → Prop := va_Qr (fun (_ : Unit) => True) (fun _ a t => va_P D vwCl (wo a) t.heap ∧ va_K D vwCl tys t ∧ va_D (va_A w0 sz) (wo a)) (va_A w0 sz)
section STB
variable {p : Program} {l : Launch} {e : Env} {R : Room} {s : State} {m : MethodId} {args : Array Value} {below : List Frame} {meth : Method} {c : Code} {nL : Nat} {cc : ByteArray} {own : String} {Ts : List Cond} {D : va_G} {tys : List (ClassId × FieldType)} {A : Nat → Prop} {Q : State → Prop} {cells slots : Nat} {ws : va_W} {pc : Nat} {lv : LV} {st : List Value} {w0 : va_W}
theorem r_nret (C : CX p s m args c nL cc own Ts D tys (va_A w0 s.heap.size)) {wo : (Nat → Nat) → va_W} (u : Nat → Nat) (hw : ws = wo u) (hr : meth.sig.returnType = none) (hk : meth.locks = false) (hd : decode cc pc = .ok (.return_, 1)) : ST p l e R s m args below meth c nL D (va_A w0 s.heap.size) (MQ below (QN D tys w0 s.heap.size wo) args s cells slots (va_A w0 s.heap.size)) cells slots ws pc lv [] := by
  subst hw
  exact fun H locs ls hP hD hS h => W.vret C.1 C.2.1 hr (fun t ht hW => ⟨⟨u, rfl, trivial, by rw [ht]; exact hP, va_K.moved hW.alike C.2.2.2.2.2.1, hD⟩, hS.F ht⟩) hS.2.2 hd hk
theorem r_aret (C : CX p s m args c nL cc own Ts D tys (va_A w0 s.heap.size)) {wo : Nat → va_W} {a : Nat} {rt : FieldType} (hw : ws = wo a) (hr : meth.sig.returnType = some rt) (hrt : ∃ t, rt = .array t) (hk : meth.locks = false) (hd : decode cc pc = .ok (.areturn, 1)) : ST p l e R s m args below meth c nL D (va_A w0 s.heap.size) (MQ below (QA D tys w0 s.heap.size wo) args s cells slots (va_A w0 s.heap.size)) cells slots ws pc lv [.ref a] := by
  subst hw
  exact fun H locs ls hP hD hS h => W.aret C.1 C.2.1 hr (Or.inr hrt) (Or.inr ⟨a, rfl⟩) (fun t ht hW => ⟨⟨(), a, rfl, trivial, by rw [ht]; exact hP, va_K.moved hW.alike C.2.2.2.2.2.1, hD⟩, hS.F ht⟩) hS.2.2 hd hk
theorem r_callI (C : CX p s m args c nL cc own Ts D tys A) {y : MethodName} {wsC wsC' : List Cond} {bytes : ByteArray} {maxL n idx mc ms : Nat} {rm : Room} {b : Nat} {As rest : List Value} {wc wr : va_W} {wo : (Nat → Nat) → va_W} (hM : ∀ sz, Met l y wsC rm (PCx D tys (.ref b :: As) wc sz) (QN D tys wc sz wo) mc ms (va_A wc sz)) (hG : GoodIn Ts wsC) (hl : Cond.methodLink own idx y ∈ Ts) (hwc : wsC = Cond.code y bytes maxL none :: wsC') (hini : Cond.initialized y.cls ∈ Ts) (hinst : Cond.instanceMethod y ∈ Ts) (hy1 : y.name = "<init>") (hy : y.cls ≠ "java/lang/invoke/MethodHandle" ∧ y.cls ≠ "java/lang/invoke/VarHandle" ∧ (parseMethodDescriptor y.desc).map (fun d => d.parameters.length) = some n) (hR : rm.cells = mc ∧ rm.slots = ms ∧ rm.frames + 1 ≤ R.frames ∧ 8 + (maxL + 11) + rm.locals ≤ R.locals) (hn : As.length = n) (isC isR : List Nat) (hnd : va_nd isC = true) (hnR : va_nd isR = true) (hdis : ∀ i ∈ isR, i ∉ isC) (hC : isC.map (fun i => ws[i]?) = wc.map some) (hR' : isR.map (fun i => ws[i]?) = wr.map some) (hst : st = As.reverse ++ .ref b :: rest) (hcat : (rest.map fun v => v.category).sum ≤ 8) (hroom : cells + mc ≤ R.cells ∧ slots + ms ≤ R.slots) (hd : decode cc pc = .ok (.invokespecial idx, 3)) (kk : ∀ u : Nat → Nat, ST p l e R s m args below meth c nL D A Q (cells + mc) (slots + ms) (wr ++ wo u) (pc + 3) lv rest) : ST p l e R s m args below meth c nL D A Q cells slots ws pc lv st := by
  intro H locs ls hP hD hS h
  subst hst
  have hFc := va_free hD hS C.2.2.2.2.2.2.2 isC hC
  exact va_callv (va_runI (As := As) (rest := rest) ⟨C.1, C.2.1, C.2.2.1, C.2.2.2.1, C.2.2.2.2.1⟩ (hM H.size) (cwI n C.2.2.2.2.1 hG hwc hR.1 hR.2.1 (C.2.2.2.2.1 _ hini) (C.2.2.2.2.1 _ hl) (C.2.2.2.2.1 _ hinst) hy1 hy hR.2.2) ⟨PCx.blind, PCx.go (av := .ref b :: As) (ws := ws) C.2.2.2.2.2.1 C.2.2.2.2.2.2.1 (sub_of_map hP isC hC) (hD.sub isC hnd hC)⟩ rfl hn h.1 rfl (lv_room hcat) hd hroom) hS (fun q _ hq => hFc q hq) hFc (fun u t H1 l1 ht hvm hw hB hz hk hS1 => by
    obtain ⟨hP1, hK1, hD1⟩ := hB
    rw [ht] at hP1
    obtain ⟨hP2, hD2⟩ := va_join (wr := wr) hP hD isC isR hC hR' hnR hdis hk hFc hP1 hD1
    exact kk u H1 l1 ls hP2 hD2 hS1 h)
theorem r_callIN (C : CX p s m args c nL cc own Ts D tys A) {y : MethodName} {wsC wsC' : List Cond} {bytes : ByteArray} {maxL n idx mc ms : Nat} {rm : Room} {b : Nat} {As rest : List Value} {wc wr : va_W} {wo : (Nat → Nat) → va_W} (hM : ∀ sz, Met l y wsC rm (PCx D tys (.ref b :: As) wc sz) (QN D tys wc sz wo) mc ms (va_A wc sz)) (hG : GoodIn Ts wsC) (kn : Nat) (hnw : nwL[kn]? = some (own, idx, y)) (hwc : wsC = Cond.code y bytes maxL none :: wsC') (hini : Cond.initialized y.cls ∈ Ts) (hinst : Cond.instanceMethod y ∈ Ts) (hy1 : y.name = "<init>") (hy : y.cls ≠ "java/lang/invoke/MethodHandle" ∧ y.cls ≠ "java/lang/invoke/VarHandle" ∧ (parseMethodDescriptor y.desc).map (fun d => d.parameters.length) = some n) (hR : rm.cells = mc ∧ rm.slots = ms ∧ rm.frames + 1 ≤ R.frames ∧ 8 + (maxL + 11) + rm.locals ≤ R.locals) (hn : As.length = n) (isC isR : List Nat) (hnd : va_nd isC = true) (hnR : va_nd isR = true) (hdis : ∀ i ∈ isR, i ∉ isC) (hC : isC.map (fun i => ws[i]?) = wc.map some) (hR' : isR.map (fun i => ws[i]?) = wr.map some) (hst : st = As.reverse ++ .ref b :: rest) (hcat : (rest.map fun v => v.category).sum ≤ 8) (hroom : cells + mc ≤ R.cells ∧ slots + ms ≤ R.slots) (hd : decode cc pc = .ok (.invokespecial idx, 3)) (kk : ∀ u : Nat → Nat, ST p l e R s m args below meth c nL D A Q (cells + mc) (slots + ms) (wr ++ wo u) (pc + 3) lv rest) : ST p l e R s m args below meth c nL D A Q cells slots ws pc lv st := by
  intro H locs ls hP hD hS h
  subst hst
  have hFc := va_free hD hS C.2.2.2.2.2.2.2 isC hC
  exact va_callv (va_runIN (As := As) (rest := rest) ⟨C.1, C.2.1, C.2.2.1, C.2.2.2.1, C.2.2.2.2.1⟩ (hM H.size) ⟨va_cnB n C.2.2.2.2.1 hG hwc hR.1 hR.2.1 (C.2.2.2.2.2.2.1.at kn hnw) (C.2.2.2.2.1 _ hini) hy hR.2.2, hy1, C.2.2.2.2.1 _ hinst⟩ ⟨PCx.blind, PCx.go (av := .ref b :: As) (ws := ws) C.2.2.2.2.2.1 C.2.2.2.2.2.2.1 (sub_of_map hP isC hC) (hD.sub isC hnd hC)⟩ rfl hn h.1 rfl (lv_room hcat) hd hroom) hS (fun q _ hq => hFc q hq) hFc (fun u t H1 l1 ht hvm hw hB hz hk hS1 => by
    obtain ⟨hP1, hK1, hD1⟩ := hB
    rw [ht] at hP1
    obtain ⟨hP2, hD2⟩ := va_join (wr := wr) hP hD isC isR hC hR' hnR hdis hk hFc hP1 hD1
    exact kk u H1 l1 ls hP2 hD2 hS1 h)
theorem r_callS_a (C : CX p s m args c nL cc own Ts D tys A) {y : MethodName} {wsC wsC' : List Cond} {bytes : ByteArray} {maxL n idx mc ms : Nat} {ret : Option FieldType} {rm : Room} {As rest : List Value} {wo : Nat → va_W} (hM : ∀ sz, Met l y wsC rm (PCx D tys As [] sz) (QA D tys [] sz wo) mc ms (va_A [] sz)) (hG : GoodIn Ts (va_wsS own idx y wsC)) (hwc : wsC = Cond.code y bytes maxL ret :: wsC') (hy : y.cls ≠ "java/lang/invoke/MethodHandle" ∧ y.cls ≠ "java/lang/invoke/VarHandle" ∧ (parseMethodDescriptor y.desc).map (fun d => d.parameters.length) = some n) (hR : rm.cells = mc ∧ rm.slots = ms ∧ rm.frames + 1 ≤ R.frames ∧ 8 + (maxL + 11) + rm.locals ≤ R.locals) (hn : As.length = n) (isR : List Nat) (hnR : va_nd isR = true) (hR' : isR.map (fun i => ws[i]?) = ws.map some) (hst : st = As.reverse ++ rest) (hcat : (rest.map fun v => v.category).sum ≤ 8) (hroom : cells + mc ≤ R.cells ∧ slots + ms ≤ R.slots) (hd : decode cc pc = .ok (.invokestatic idx, 3)) (kk : ∀ a : Nat, ST p l e R s m args below meth c nL D A Q (cells + mc) (slots + ms) (ws ++ wo a) (pc + 3) lv (.ref a :: rest)) : ST p l e R s m args below meth c nL D A Q cells slots ws pc lv st := by
  intro H locs ls hP hD hS h
  subst hst
  have hFc := va_free (wc := []) hD hS C.2.2.2.2.2.2.2 [] rfl
  exact va_callr (va_runS (As := As) (rest := rest) ⟨C.1, C.2.1, C.2.2.1, C.2.2.2.1, C.2.2.2.2.1⟩ (hM H.size) (va_cwS n C.2.2.2.2.1 hG hwc hR.1 hR.2.1 hy hR.2.2) ⟨PCx.blind, PCx.go (av := As) (ws := ws) C.2.2.2.2.2.1 C.2.2.2.2.2.2.1 (sub_of_map hP [] rfl) (hD.sub [] rfl rfl)⟩ rfl hn h.1 rfl (lv_room hcat) hd hroom) hS (fun q _ hq => hFc q hq) hFc (fun u a t H1 l1 ht hvm hw hB hz hk hS1 => by
    obtain ⟨hP1, hK1, hD1⟩ := hB
    rw [ht] at hP1
    obtain ⟨hP2, hD2⟩ := va_join (wc := []) (wr := ws) hP hD [] isR rfl hR' hnR (fun _ _ h => by cases h) hk hFc hP1 hD1
    exact kk a H1 l1 ls hP2 hD2 hS1 h)
end STB
