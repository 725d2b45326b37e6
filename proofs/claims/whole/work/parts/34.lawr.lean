-- ===== end of PART A; then your names; then what follows =====
/-! THE CLAIM OUT OF ONE WALK OF THE LAW'S BODY. Your part is whole_start (and what it stands on); all else here is the same for every law, but numbers. -/
def R_law : String := "ParishCoatLaw"
def lw_P (b : Addr) (xs : List Int32) (args : Array Value) (s : State) : Prop := args = #[.ref b] ∧ s.IntsAt b xs ∧ xs.length ≤ 320 ∧ (Jvm.Cond.and given_1 narrow_1).before args s = true
def lw_Q (_ : Array Value) (s : State) (o : Outcome) (t : State) : Prop := o = .returned (some (.int 1)) ∧ Framed s o t [] 600000 7302250
def lw_Z (below : List Frame) (a : Array Value) (s : State) : State → Prop := fun t => ∃ o, t.status = .running ∧ Ended t below o ∧ lw_Q a s o t
/-- the law's own end, with 1 on the stack, nothing written that was there before, its room as the claim has it -/
theorem lw_ret {p : Program} {l : Launch} {e : Env} {s : State} {m : MethodId} {below : List Frame} {meth : Method} {c : Code} {b : Nat} (hx : p.tables.exec = Jvm.exec) (hb : c.code = code) (hr : meth.sig.returnType = ret) (hlocks : meth.locks = false) {pc : Nat} {H : Heap} {ls : Array Slot} (hdg : decode code pc = .ok (.ireturn, 1)) : W p l e room_1 s m #[Value.ref b] below meth c H [] 600000 7302250 (lw_Z below #[Value.ref b] s) (F0 m pc ls [.int 1]) := by
  intro T hT X
  obtain ⟨fs, hret, hrun, hended, hW, hframe⟩ := X.leave (v := some (.int 1)) (hlocks := hlocks) (fun h => by rw [hr] at h; cases h)
  have hmeth' : T.vm.method? m = some meth := X.method'
  refine ⟨T.setFrames fs, ?_, .returned (some (.int 1)), hrun, hended, rfl, ⟨_, rfl⟩, hW, hframe⟩
  jvm_step X.here [X.here.top, hx, hb, hdg, hmeth', hr, ret, narrow_b1]
  (try refine ⟨rfl, ?_⟩); (try refine ⟨rfl, ?_⟩)
  first | (intro acts; rw [hret _ acts rfl rfl rfl]) | rw [hret _ _ rfl rfl rfl]
  exact Steps.refl _
/-- what holds at the law's entry: the machine, the code, the tables' words (any of lw_tbl by 'hts w (by decide +kernel)'), the script of L ints xs at the cell b, what the Statement gives of the start (any of its parts by flat_of_before) -/
def lw_At (p : Program) (s : State) (m : MethodId) (meth : Method) (c : Code) (b L : Nat) (xs : Nat → Int32) : Prop :=
  p.tables.exec = Jvm.exec ∧ c.code = code ∧ meth.sig.returnType = ret ∧ c.maxLocals = 4 ∧ s.vm.findClass R_law = some m.cls ∧ (∀ w ∈ lw_tbl, w.before #[Value.ref b] s = true) ∧ va_X b L xs s s.heap ∧ b < s.heap.size ∧ meth.locks = false ∧ (Jvm.Cond.and given_1 narrow_1).before #[Value.ref b] s = true

section LWR
variable {p : Program} {l : Launch} {e : Env} {R : Room} {s : State} {m : MethodId} {args : Array Value} {below : List Frame} {meth : Method} {c : Code} {nL : Nat} {cc : ByteArray} {own : String} {Ts : List Cond} {D : va_G} {tys : List (ClassId × FieldType)} {A : Nat → Prop} {Q : State → Prop} {cells slots : Nat} {ws : va_W} {pc : Nat} {lv : LV} {st : List Value}
theorem r_romV_i (C : CX p s m args c nL cc own Ts D tys A) {y : MethodName} {wsC wsC' : List Cond} {bytes : ByteArray} {maxL n idx mc ms : Nat} {ret : Option FieldType} {rm : Room} {Cn : String} {b : Nat} {As rest : List Value} {wc : va_W} {r : Int32} (hM : ∀ sz, Met l y wsC rm (PCx D tys (.ref b :: As) wc sz) (QI D tys wc sz r wc) mc ms (va_A wc sz)) (hG : GoodIn Ts (wsV own idx Cn y wsC)) (hwc : wsC = Cond.code y bytes maxL ret :: wsC') (hy : y.cls = Cn ∧ y.cls ≠ "java/lang/invoke/MethodHandle" ∧ y.cls ≠ "java/lang/invoke/VarHandle" ∧ (parseMethodDescriptor y.desc).map (fun d => d.parameters.length) = some n) (hR : rm.cells = mc ∧ rm.slots = ms ∧ rm.frames + 1 ≤ R.frames ∧ 8 + (maxL + 11) + rm.locals ≤ R.locals) (hn : As.length = n) (q0 : Nat) {ci N : Nat} {T : u_T} {fs : List Value} (he : ws[q0]? = some (b, .inr (ci, fs))) (hcl : vwCl[ci]? = some (Cn, T, N)) (isC : List Nat) (hnd : va_nd isC = true) (hC : isC.map (fun i => ws[i]?) = wc.map some) (hst : st = As.reverse ++ .ref b :: rest) (hcat : (rest.map fun v => v.category).sum ≤ 8) (hroom : cells + mc ≤ R.cells ∧ slots + ms ≤ R.slots) (hd : decode cc pc = .ok (.invokevirtual idx, 3)) (kk : ST p l e R s m args below meth c nL D A Q (cells + mc) (slots + ms) ws (pc + 3) lv (.int r :: rest)) : ST p l e R s m args below meth c nL D A Q cells slots ws pc lv st := by
  intro H locs ls hP hD hS h
  subst hst
  have hFc := va_free hD hS C.2.2.2.2.2.2.2 isC hC
  exact va_calli (va_runV (As := As) (rest := rest) ⟨C.1, C.2.1, C.2.2.1, C.2.2.2.1, C.2.2.2.2.1⟩ (hM H.size) (cwV n C.2.2.2.2.1 hG hwc hR.1 hR.2.1 hy hR.2.2) ⟨PCx.blind, va_recv C.2.2.2.2.2.1 hP hcl he, PCx.go (av := .ref b :: As) (ws := ws) C.2.2.2.2.2.1 C.2.2.2.2.2.2.1 (sub_of_map hP isC hC) (hD.sub isC hnd hC)⟩ rfl hn h.1 rfl (lv_room hcat) hd ⟨hroom.1, hroom.2⟩) hS (fun q _ hq => hFc q hq) hFc (fun r1 u t H1 l1 ht hvm hw hB hz hk hS1 => by
    subst hw
    obtain ⟨hP1, hK1, hD1⟩ := hB
    rw [ht] at hP1
    obtain ⟨hP2, hD2⟩ := world_upd hP hD isC (nd_nodup hnd) hC rfl (setAll_self isC (nd_nodup hnd) hC) hk hP1
    exact kk H1 l1 ls hP2 hD2 hS1 h)
theorem r_slen (C : CX p s m args c nL cc own Ts D tys A) {b L : Nat} {xs : Nat → Int32} (hX : va_X b L xs s s.heap) (hbl : b < s.heap.size) (hbA : ¬ A b) (hd : decode cc pc = .ok (.arraylength, 1)) (kk : ST p l e R s m args below meth c nL D A Q cells slots ws (pc + 1) lv (.int (Int32.ofNat L) :: st)) : ST p l e R s m args below meth c nL D A Q cells slots ws (pc) lv (.ref b :: st) := fun H locs ls hP hD hS h => va_slen C.1 C.2.1 hX hbl hbA hS hd (kk H locs ls hP hD hS h)
theorem r_sld (C : CX p s m args c nL cc own Ts D tys A) {b L : Nat} {xs : Nat → Int32} {i : Int32} (hX : va_X b L xs s s.heap) (hbl : b < s.heap.size) (hbA : ¬ A b) (hin : vp_in i L) (hd : decode cc pc = .ok (.iaload, 1)) (kk : ST p l e R s m args below meth c nL D A Q cells slots ws (pc + 1) lv (.int (xs i.toNatClampNeg) :: st)) : ST p l e R s m args below meth c nL D A Q cells slots ws (pc) lv (.int i :: .ref b :: st) := fun H locs ls hP hD hS h => va_sld C.1 C.2.1 hX hbl hbA hS hin hd (kk H locs ls hP hD hS h)
theorem r_lawret {b : Nat} (hLr : meth.sig.returnType = ret ∧ meth.locks = false ∧ p.tables.exec = Jvm.exec ∧ c.code = code) (hr0 : cells ≤ room_1.cells ∧ slots ≤ room_1.slots) (hd : decode code pc = .ok (.ireturn, 1)) : ST p l e room_1 s m #[Value.ref b] below meth c nL D (fun q : Nat => s.heap.size ≤ q) (lw_Z below #[Value.ref b] s) cells slots ws pc lv [.int 1] := fun H locs ls hP hD hS h => va_forget (fun q hq => hS.2.2 q hq) (W.widen hr0.1 hr0.2 (lw_ret hLr.2.2.1 hLr.2.2.2 hLr.1 hLr.2.1 hd))
end LWR
