theorem hyS_X9_init : yX9_init.cls ≠ "java/lang/invoke/MethodHandle" ∧ yX9_init.cls ≠ "java/lang/invoke/VarHandle" ∧ (parseMethodDescriptor yX9_init.desc).map (fun d => d.parameters.length) = some 0 := by decide +kernel
theorem hyS_X8_init : yX8_init.cls ≠ "java/lang/invoke/MethodHandle" ∧ yX8_init.cls ≠ "java/lang/invoke/VarHandle" ∧ (parseMethodDescriptor yX8_init.desc).map (fun d => d.parameters.length) = some 0 := by decide +kernel
theorem inlX0 : ∀ w ∈ wsX00, w ∈ wsL_law := fun _ h => List.mem_append_left _ (List.mem_append_right _ h)
theorem inlX1 : ∀ w ∈ wsX10, w ∈ wsL_law := fun _ h => List.mem_append_left _ (List.mem_append_left _ (List.mem_append_left _ (List.mem_append_left _ (List.mem_append_left _ (List.mem_append_right _ h)))))
theorem inlX2 : ∀ w ∈ wsX20, w ∈ wsL_law := fun _ h => List.mem_append_left _ (List.mem_append_left _ (List.mem_append_left _ (List.mem_append_left _ (List.mem_append_left _ (List.mem_append_left _ (List.mem_append_left _ (List.mem_append_left _ (List.mem_append_right _ h))))))))
theorem inlX3 : ∀ w ∈ wsX30, w ∈ wsL_law := fun _ h => List.mem_append_left _ (List.mem_append_left _ (List.mem_append_right _ h))
theorem inlX4 : ∀ w ∈ wsX40, w ∈ wsL_law := fun _ h => List.mem_append_left _ (List.mem_append_left _ (List.mem_append_left _ (List.mem_append_right _ h)))
theorem inlX5 : ∀ w ∈ wsX50, w ∈ wsL_law := fun _ h => List.mem_append_left _ (List.mem_append_left _ (List.mem_append_left _ (List.mem_append_left _ (List.mem_append_left _ (List.mem_append_left _ (List.mem_append_left _ (List.mem_append_right _ h)))))))
theorem inlX6 : ∀ w ∈ wsX60, w ∈ wsL_law := fun _ h => List.mem_append_left _ (List.mem_append_left _ (List.mem_append_left _ (List.mem_append_left _ (List.mem_append_right _ h))))
theorem inlX7 : ∀ w ∈ wsX70, w ∈ wsL_law := fun _ h => List.mem_append_left _ (List.mem_append_left _ (List.mem_append_left _ (List.mem_append_left _ (List.mem_append_left _ (List.mem_append_left _ (List.mem_append_right _ h))))))
theorem inlX8 : ∀ w ∈ wsX80, w ∈ wsL_law := fun _ h => List.mem_append_left _ (List.mem_append_left _ (List.mem_append_left _ (List.mem_append_left _ (List.mem_append_left _ (List.mem_append_left _ (List.mem_append_left _ (List.mem_append_left _ (List.mem_append_left _ (List.mem_append_left _ (List.mem_append_right _ h))))))))))
theorem inlX9 : ∀ w ∈ wsX90, w ∈ wsL_law := fun _ h => List.mem_append_left _ (List.mem_append_left _ (List.mem_append_left _ (List.mem_append_left _ (List.mem_append_left _ (List.mem_append_left _ (List.mem_append_left _ (List.mem_append_left _ (List.mem_append_left _ (List.mem_append_right _ h)))))))))
theorem mkSTR {args : Array Value} {s : State} {A : Nat → Prop} (hA : ∀ a : Nat, a < s.heap.size → ¬ A a) {tm : Term} {N : Nat} {byt : List Int32} (hN : N < 2 ^ 31) (hex : (Cond.exactly tm RJ0).before args s = true) (hco : (Cond.eq (.field tm RJ0 "coder" "B") (.int 0)).before args s = true) (har : (Cond.arrayOf (.field tm RJ0 "value" "[B") .byte).before args s = true) (hle : (Cond.eq (.length (.field tm RJ0 "value" "[B")) (.int (Int32.ofNat N))).before args s = true) (hel : ∀ j : Nat, j < N → (Cond.eq (.elem (.field tm RJ0 "value" "[B") (.int (Int32.ofNat j))) (.int (byt.getD j 0))).before args s = true) (hZ : va_Z RJ0 "COMPACT_STRINGS" "Z" (.int 1) A s s.heap) (hQ : va_Zq RJ3 "SIOOBE_FORMATTER" "Ljava/util/function/BiFunction;" A s s.heap) : ∃ a : Nat, STR N (bS byt) a A s s.heap ∧ tm.eval args s none [] s = some (.ref a) := by
  obtain ⟨a, c, cA, kA, q1, q2, q3, q4, q5, q6, -⟩ := Cond.exactly_spec (args := args) (first := s) (o := none) (s := s) (idx := []) (t := tm) (cls := RJ0) hex
  obtain ⟨t, ht, hT⟩ := va_Tof (f := fun j => .int (byt.getD j 0)) (A := A) hN har (va_eqt hle) (fun j hj => va_eqt (hel j hj)) hA
  exact ⟨a, ⟨t, ⟨cA, q3, q5, by rw [q6]; exact q2, hA a (Array.getElem?_eq_some_iff.mp q3).1⟩, vk_OFof q1 (va_eqt hco) hA, vk_OFof q1 ht hA, hT, hZ, hQ⟩, q1⟩
set_option maxHeartbeats 8000000 in
set_option maxRecDepth 100000 in
theorem start_OU {s : State} {b : Nat} (hts : ∀ w ∈ lw_tbl, w.before #[Value.ref b] s = true) (hgv : (Jvm.Cond.and given_1 narrow_1).before #[Value.ref b] s = true) : OU (fun q : Nat => s.heap.size ≤ q) s s.heap := by
  have hs := flat_of_before _ hgv
  have hA : ∀ a : Nat, a < s.heap.size → ¬ (fun q : Nat => s.heap.size ≤ q) a := fun a h => Nat.not_le.mpr h
  have hZ : va_Z RJ0 "COMPACT_STRINGS" "Z" (.int 1) (fun q : Nat => s.heap.size ≤ q) s s.heap := va_Zof (hts (.laysStatic RJ0 "COMPACT_STRINGS" "Z") (by decide +kernel)) (hts (.initialized RJ0) (by decide +kernel)) (va_eqt (hs (.eq (.static "java/lang/String" "COMPACT_STRINGS" "Z") (.int 1)) (by decide +kernel))) hA
  have hQ : va_Zq RJ3 "SIOOBE_FORMATTER" "Ljava/util/function/BiFunction;" (fun q : Nat => s.heap.size ≤ q) s s.heap := va_Zqof (hts (.laysStatic RJ3 "SIOOBE_FORMATTER" "Ljava/util/function/BiFunction;") (by decide +kernel)) (hts (.initialized RJ3) (by decide +kernel)) (hs (.isRef (.static "jdk/internal/util/Preconditions" "SIOOBE_FORMATTER" "Ljava/util/function/BiFunction;")) (by decide +kernel)) hA
  obtain ⟨a0, s0, e0⟩ := mkSTR hA (tm := (.string "ParishCoat$Reader" 86)) (N := 4) (byt := [98, 111, 110, 101]) (by decide) (hs (.exactly (.string "ParishCoat$Reader" 86) "java/lang/String") (by decide +kernel)) (hs (.eq (.field (.string "ParishCoat$Reader" 86) "java/lang/String" "coder" "B") (.int 0)) (by decide +kernel)) (hs (.arrayOf (.field (.string "ParishCoat$Reader" 86) "java/lang/String" "value" "[B") .byte) (by decide +kernel)) (hs (.eq (.length (.field (.string "ParishCoat$Reader" 86) "java/lang/String" "value" "[B")) (.int 4)) (by decide +kernel)) (fun j hj => by
    rcases (show j = 0 ∨ j = 1 ∨ j = 2 ∨ j = 3 by omega) with rfl | rfl | rfl | rfl
    · exact hs (.eq (.elem (.field (.string "ParishCoat$Reader" 86) "java/lang/String" "value" "[B") (.int 0)) (.int 98)) (by decide +kernel)
    · exact hs (.eq (.elem (.field (.string "ParishCoat$Reader" 86) "java/lang/String" "value" "[B") (.int 1)) (.int 111)) (by decide +kernel)
    · exact hs (.eq (.elem (.field (.string "ParishCoat$Reader" 86) "java/lang/String" "value" "[B") (.int 2)) (.int 110)) (by decide +kernel)
    · exact hs (.eq (.elem (.field (.string "ParishCoat$Reader" 86) "java/lang/String" "value" "[B") (.int 3)) (.int 101)) (by decide +kernel)) hZ hQ
  have r0 : vk_R RX2 86 "bone" a0 s := vk_R.of (hts (.stringRef RX2 86 "bone") (by decide +kernel)) e0
  obtain ⟨a1, s1, e1⟩ := mkSTR hA (tm := (.string "ParishCoat$Reader" 92)) (N := 5) (byt := [98, 114, 97, 115, 115]) (by decide) (hs (.exactly (.string "ParishCoat$Reader" 92) "java/lang/String") (by decide +kernel)) (hs (.eq (.field (.string "ParishCoat$Reader" 92) "java/lang/String" "coder" "B") (.int 0)) (by decide +kernel)) (hs (.arrayOf (.field (.string "ParishCoat$Reader" 92) "java/lang/String" "value" "[B") .byte) (by decide +kernel)) (hs (.eq (.length (.field (.string "ParishCoat$Reader" 92) "java/lang/String" "value" "[B")) (.int 5)) (by decide +kernel)) (fun j hj => by
    rcases (show j = 0 ∨ j = 1 ∨ j = 2 ∨ j = 3 ∨ j = 4 by omega) with rfl | rfl | rfl | rfl | rfl
    · exact hs (.eq (.elem (.field (.string "ParishCoat$Reader" 92) "java/lang/String" "value" "[B") (.int 0)) (.int 98)) (by decide +kernel)
    · exact hs (.eq (.elem (.field (.string "ParishCoat$Reader" 92) "java/lang/String" "value" "[B") (.int 1)) (.int 114)) (by decide +kernel)
    · exact hs (.eq (.elem (.field (.string "ParishCoat$Reader" 92) "java/lang/String" "value" "[B") (.int 2)) (.int 97)) (by decide +kernel)
    · exact hs (.eq (.elem (.field (.string "ParishCoat$Reader" 92) "java/lang/String" "value" "[B") (.int 3)) (.int 115)) (by decide +kernel)
    · exact hs (.eq (.elem (.field (.string "ParishCoat$Reader" 92) "java/lang/String" "value" "[B") (.int 4)) (.int 115)) (by decide +kernel)) hZ hQ
  have r1 : vk_R RX2 92 "brass" a1 s := vk_R.of (hts (.stringRef RX2 92 "brass") (by decide +kernel)) e1
  obtain ⟨a2, s2, e2⟩ := mkSTR hA (tm := (.string "ParishCoat$Reader" 94)) (N := 5) (byt := [112, 101, 97, 114, 108]) (by decide) (hs (.exactly (.string "ParishCoat$Reader" 94) "java/lang/String") (by decide +kernel)) (hs (.eq (.field (.string "ParishCoat$Reader" 94) "java/lang/String" "coder" "B") (.int 0)) (by decide +kernel)) (hs (.arrayOf (.field (.string "ParishCoat$Reader" 94) "java/lang/String" "value" "[B") .byte) (by decide +kernel)) (hs (.eq (.length (.field (.string "ParishCoat$Reader" 94) "java/lang/String" "value" "[B")) (.int 5)) (by decide +kernel)) (fun j hj => by
    rcases (show j = 0 ∨ j = 1 ∨ j = 2 ∨ j = 3 ∨ j = 4 by omega) with rfl | rfl | rfl | rfl | rfl
    · exact hs (.eq (.elem (.field (.string "ParishCoat$Reader" 94) "java/lang/String" "value" "[B") (.int 0)) (.int 112)) (by decide +kernel)
    · exact hs (.eq (.elem (.field (.string "ParishCoat$Reader" 94) "java/lang/String" "value" "[B") (.int 1)) (.int 101)) (by decide +kernel)
    · exact hs (.eq (.elem (.field (.string "ParishCoat$Reader" 94) "java/lang/String" "value" "[B") (.int 2)) (.int 97)) (by decide +kernel)
    · exact hs (.eq (.elem (.field (.string "ParishCoat$Reader" 94) "java/lang/String" "value" "[B") (.int 3)) (.int 114)) (by decide +kernel)
    · exact hs (.eq (.elem (.field (.string "ParishCoat$Reader" 94) "java/lang/String" "value" "[B") (.int 4)) (.int 108)) (by decide +kernel)) hZ hQ
  have r2 : vk_R RX2 94 "pearl" a2 s := vk_R.of (hts (.stringRef RX2 94 "pearl") (by decide +kernel)) e2
  obtain ⟨a3, s3, e3⟩ := mkSTR hA (tm := (.string "ParishCoat$Reader" 96)) (N := 5) (byt := [108, 111, 111, 115, 101]) (by decide) (hs (.exactly (.string "ParishCoat$Reader" 96) "java/lang/String") (by decide +kernel)) (hs (.eq (.field (.string "ParishCoat$Reader" 96) "java/lang/String" "coder" "B") (.int 0)) (by decide +kernel)) (hs (.arrayOf (.field (.string "ParishCoat$Reader" 96) "java/lang/String" "value" "[B") .byte) (by decide +kernel)) (hs (.eq (.length (.field (.string "ParishCoat$Reader" 96) "java/lang/String" "value" "[B")) (.int 5)) (by decide +kernel)) (fun j hj => by
    rcases (show j = 0 ∨ j = 1 ∨ j = 2 ∨ j = 3 ∨ j = 4 by omega) with rfl | rfl | rfl | rfl | rfl
    · exact hs (.eq (.elem (.field (.string "ParishCoat$Reader" 96) "java/lang/String" "value" "[B") (.int 0)) (.int 108)) (by decide +kernel)
    · exact hs (.eq (.elem (.field (.string "ParishCoat$Reader" 96) "java/lang/String" "value" "[B") (.int 1)) (.int 111)) (by decide +kernel)
    · exact hs (.eq (.elem (.field (.string "ParishCoat$Reader" 96) "java/lang/String" "value" "[B") (.int 2)) (.int 111)) (by decide +kernel)
    · exact hs (.eq (.elem (.field (.string "ParishCoat$Reader" 96) "java/lang/String" "value" "[B") (.int 3)) (.int 115)) (by decide +kernel)
    · exact hs (.eq (.elem (.field (.string "ParishCoat$Reader" 96) "java/lang/String" "value" "[B") (.int 4)) (.int 101)) (by decide +kernel)) hZ hQ
  have r3 : vk_R RX2 96 "loose" a3 s := vk_R.of (hts (.stringRef RX2 96 "loose") (by decide +kernel)) e3
  obtain ⟨a4, s4, e4⟩ := mkSTR hA (tm := (.string "ParishCoat$Reader" 98)) (N := 6) (byt := [102, 97, 118, 111, 117, 114]) (by decide) (hs (.exactly (.string "ParishCoat$Reader" 98) "java/lang/String") (by decide +kernel)) (hs (.eq (.field (.string "ParishCoat$Reader" 98) "java/lang/String" "coder" "B") (.int 0)) (by decide +kernel)) (hs (.arrayOf (.field (.string "ParishCoat$Reader" 98) "java/lang/String" "value" "[B") .byte) (by decide +kernel)) (hs (.eq (.length (.field (.string "ParishCoat$Reader" 98) "java/lang/String" "value" "[B")) (.int 6)) (by decide +kernel)) (fun j hj => by
    rcases (show j = 0 ∨ j = 1 ∨ j = 2 ∨ j = 3 ∨ j = 4 ∨ j = 5 by omega) with rfl | rfl | rfl | rfl | rfl | rfl
    · exact hs (.eq (.elem (.field (.string "ParishCoat$Reader" 98) "java/lang/String" "value" "[B") (.int 0)) (.int 102)) (by decide +kernel)
    · exact hs (.eq (.elem (.field (.string "ParishCoat$Reader" 98) "java/lang/String" "value" "[B") (.int 1)) (.int 97)) (by decide +kernel)
    · exact hs (.eq (.elem (.field (.string "ParishCoat$Reader" 98) "java/lang/String" "value" "[B") (.int 2)) (.int 118)) (by decide +kernel)
    · exact hs (.eq (.elem (.field (.string "ParishCoat$Reader" 98) "java/lang/String" "value" "[B") (.int 3)) (.int 111)) (by decide +kernel)
    · exact hs (.eq (.elem (.field (.string "ParishCoat$Reader" 98) "java/lang/String" "value" "[B") (.int 4)) (.int 117)) (by decide +kernel)
    · exact hs (.eq (.elem (.field (.string "ParishCoat$Reader" 98) "java/lang/String" "value" "[B") (.int 5)) (.int 114)) (by decide +kernel)) hZ hQ
  have r4 : vk_R RX2 98 "favour" a4 s := vk_R.of (hts (.stringRef RX2 98 "favour") (by decide +kernel)) e4
  obtain ⟨a5, s5, e5⟩ := mkSTR hA (tm := (.string "ParishCoat$Reader" 100)) (N := 4) (byt := [102, 101, 117, 100]) (by decide) (hs (.exactly (.string "ParishCoat$Reader" 100) "java/lang/String") (by decide +kernel)) (hs (.eq (.field (.string "ParishCoat$Reader" 100) "java/lang/String" "coder" "B") (.int 0)) (by decide +kernel)) (hs (.arrayOf (.field (.string "ParishCoat$Reader" 100) "java/lang/String" "value" "[B") .byte) (by decide +kernel)) (hs (.eq (.length (.field (.string "ParishCoat$Reader" 100) "java/lang/String" "value" "[B")) (.int 4)) (by decide +kernel)) (fun j hj => by
    rcases (show j = 0 ∨ j = 1 ∨ j = 2 ∨ j = 3 by omega) with rfl | rfl | rfl | rfl
    · exact hs (.eq (.elem (.field (.string "ParishCoat$Reader" 100) "java/lang/String" "value" "[B") (.int 0)) (.int 102)) (by decide +kernel)
    · exact hs (.eq (.elem (.field (.string "ParishCoat$Reader" 100) "java/lang/String" "value" "[B") (.int 1)) (.int 101)) (by decide +kernel)
    · exact hs (.eq (.elem (.field (.string "ParishCoat$Reader" 100) "java/lang/String" "value" "[B") (.int 2)) (.int 117)) (by decide +kernel)
    · exact hs (.eq (.elem (.field (.string "ParishCoat$Reader" 100) "java/lang/String" "value" "[B") (.int 3)) (.int 100)) (by decide +kernel)) hZ hQ
  have r5 : vk_R RX2 100 "feud" a5 s := vk_R.of (hts (.stringRef RX2 100 "feud") (by decide +kernel)) e5
  obtain ⟨a6, s6, e6⟩ := mkSTR hA (tm := (.string "ParishCoat$Reader" 102)) (N := 5) (byt := [113, 117, 111, 116, 97]) (by decide) (hs (.exactly (.string "ParishCoat$Reader" 102) "java/lang/String") (by decide +kernel)) (hs (.eq (.field (.string "ParishCoat$Reader" 102) "java/lang/String" "coder" "B") (.int 0)) (by decide +kernel)) (hs (.arrayOf (.field (.string "ParishCoat$Reader" 102) "java/lang/String" "value" "[B") .byte) (by decide +kernel)) (hs (.eq (.length (.field (.string "ParishCoat$Reader" 102) "java/lang/String" "value" "[B")) (.int 5)) (by decide +kernel)) (fun j hj => by
    rcases (show j = 0 ∨ j = 1 ∨ j = 2 ∨ j = 3 ∨ j = 4 by omega) with rfl | rfl | rfl | rfl | rfl
    · exact hs (.eq (.elem (.field (.string "ParishCoat$Reader" 102) "java/lang/String" "value" "[B") (.int 0)) (.int 113)) (by decide +kernel)
    · exact hs (.eq (.elem (.field (.string "ParishCoat$Reader" 102) "java/lang/String" "value" "[B") (.int 1)) (.int 117)) (by decide +kernel)
    · exact hs (.eq (.elem (.field (.string "ParishCoat$Reader" 102) "java/lang/String" "value" "[B") (.int 2)) (.int 111)) (by decide +kernel)
    · exact hs (.eq (.elem (.field (.string "ParishCoat$Reader" 102) "java/lang/String" "value" "[B") (.int 3)) (.int 116)) (by decide +kernel)
    · exact hs (.eq (.elem (.field (.string "ParishCoat$Reader" 102) "java/lang/String" "value" "[B") (.int 4)) (.int 97)) (by decide +kernel)) hZ hQ
  have r6 : vk_R RX2 102 "quota" a6 s := vk_R.of (hts (.stringRef RX2 102 "quota") (by decide +kernel)) e6
  obtain ⟨a7, s7, e7⟩ := mkSTR hA (tm := (.string "ParishCoat$Reader" 104)) (N := 4) (byt := [99, 111, 108, 100]) (by decide) (hs (.exactly (.string "ParishCoat$Reader" 104) "java/lang/String") (by decide +kernel)) (hs (.eq (.field (.string "ParishCoat$Reader" 104) "java/lang/String" "coder" "B") (.int 0)) (by decide +kernel)) (hs (.arrayOf (.field (.string "ParishCoat$Reader" 104) "java/lang/String" "value" "[B") .byte) (by decide +kernel)) (hs (.eq (.length (.field (.string "ParishCoat$Reader" 104) "java/lang/String" "value" "[B")) (.int 4)) (by decide +kernel)) (fun j hj => by
    rcases (show j = 0 ∨ j = 1 ∨ j = 2 ∨ j = 3 by omega) with rfl | rfl | rfl | rfl
    · exact hs (.eq (.elem (.field (.string "ParishCoat$Reader" 104) "java/lang/String" "value" "[B") (.int 0)) (.int 99)) (by decide +kernel)
    · exact hs (.eq (.elem (.field (.string "ParishCoat$Reader" 104) "java/lang/String" "value" "[B") (.int 1)) (.int 111)) (by decide +kernel)
    · exact hs (.eq (.elem (.field (.string "ParishCoat$Reader" 104) "java/lang/String" "value" "[B") (.int 2)) (.int 108)) (by decide +kernel)
    · exact hs (.eq (.elem (.field (.string "ParishCoat$Reader" 104) "java/lang/String" "value" "[B") (.int 3)) (.int 100)) (by decide +kernel)) hZ hQ
  have r7 : vk_R RX2 104 "cold" a7 s := vk_R.of (hts (.stringRef RX2 104 "cold") (by decide +kernel)) e7
  obtain ⟨a8, s8, e8⟩ := mkSTR hA (tm := (.string "ParishCoat$Reader" 106)) (N := 4) (byt := [109, 105, 108, 100]) (by decide) (hs (.exactly (.string "ParishCoat$Reader" 106) "java/lang/String") (by decide +kernel)) (hs (.eq (.field (.string "ParishCoat$Reader" 106) "java/lang/String" "coder" "B") (.int 0)) (by decide +kernel)) (hs (.arrayOf (.field (.string "ParishCoat$Reader" 106) "java/lang/String" "value" "[B") .byte) (by decide +kernel)) (hs (.eq (.length (.field (.string "ParishCoat$Reader" 106) "java/lang/String" "value" "[B")) (.int 4)) (by decide +kernel)) (fun j hj => by
    rcases (show j = 0 ∨ j = 1 ∨ j = 2 ∨ j = 3 by omega) with rfl | rfl | rfl | rfl
    · exact hs (.eq (.elem (.field (.string "ParishCoat$Reader" 106) "java/lang/String" "value" "[B") (.int 0)) (.int 109)) (by decide +kernel)
    · exact hs (.eq (.elem (.field (.string "ParishCoat$Reader" 106) "java/lang/String" "value" "[B") (.int 1)) (.int 105)) (by decide +kernel)
    · exact hs (.eq (.elem (.field (.string "ParishCoat$Reader" 106) "java/lang/String" "value" "[B") (.int 2)) (.int 108)) (by decide +kernel)
    · exact hs (.eq (.elem (.field (.string "ParishCoat$Reader" 106) "java/lang/String" "value" "[B") (.int 3)) (.int 100)) (by decide +kernel)) hZ hQ
  have r8 : vk_R RX2 106 "mild" a8 s := vk_R.of (hts (.stringRef RX2 106 "mild") (by decide +kernel)) e8
  obtain ⟨a9, s9, e9⟩ := mkSTR hA (tm := (.string "ParishCoat$Reader" 108)) (N := 4) (byt := [99, 111, 97, 116]) (by decide) (hs (.exactly (.string "ParishCoat$Reader" 108) "java/lang/String") (by decide +kernel)) (hs (.eq (.field (.string "ParishCoat$Reader" 108) "java/lang/String" "coder" "B") (.int 0)) (by decide +kernel)) (hs (.arrayOf (.field (.string "ParishCoat$Reader" 108) "java/lang/String" "value" "[B") .byte) (by decide +kernel)) (hs (.eq (.length (.field (.string "ParishCoat$Reader" 108) "java/lang/String" "value" "[B")) (.int 4)) (by decide +kernel)) (fun j hj => by
    rcases (show j = 0 ∨ j = 1 ∨ j = 2 ∨ j = 3 by omega) with rfl | rfl | rfl | rfl
    · exact hs (.eq (.elem (.field (.string "ParishCoat$Reader" 108) "java/lang/String" "value" "[B") (.int 0)) (.int 99)) (by decide +kernel)
    · exact hs (.eq (.elem (.field (.string "ParishCoat$Reader" 108) "java/lang/String" "value" "[B") (.int 1)) (.int 111)) (by decide +kernel)
    · exact hs (.eq (.elem (.field (.string "ParishCoat$Reader" 108) "java/lang/String" "value" "[B") (.int 2)) (.int 97)) (by decide +kernel)
    · exact hs (.eq (.elem (.field (.string "ParishCoat$Reader" 108) "java/lang/String" "value" "[B") (.int 3)) (.int 116)) (by decide +kernel)) hZ hQ
  have r9 : vk_R RX2 108 "coat" a9 s := vk_R.of (hts (.stringRef RX2 108 "coat") (by decide +kernel)) e9
  exact ⟨fun i => ([a0, a1, a2, a3, a4, a5, a6, a7, a8, a9] : List Nat).getD i 0, ⟨s0, r0⟩, ⟨s1, r1⟩, ⟨s2, r2⟩, ⟨s3, r3⟩, ⟨s4, r4⟩, ⟨s5, r5⟩, ⟨s6, r6⟩, ⟨s7, r7⟩, ⟨s8, r8⟩, ⟨s9, r9⟩⟩
set_option maxHeartbeats 8000000 in
set_option maxRecDepth 100000 in
theorem start_OF {s : State} {b : Nat} (hts : ∀ w ∈ lw_tbl, w.before #[Value.ref b] s = true) (hgv : (Jvm.Cond.and given_1 narrow_1).before #[Value.ref b] s = true) : OF (fun q : Nat => s.heap.size ≤ q) s s.heap := by
  have hs := flat_of_before _ hgv
  have hA : ∀ a : Nat, a < s.heap.size → ¬ (fun q : Nat => s.heap.size ≤ q) a := fun a h => Nat.not_le.mpr h
  obtain ⟨t, h1, h2⟩ := va_Tof (args := #[Value.ref b]) (s := s) (tm := .static "ParishCoat" "FACTORIALS" "[I") (ty := .int) (N := 8) (f := fun j => .int (facL j)) (A := fun q : Nat => s.heap.size ≤ q) (by decide) (hs (.arrayOf (.static "ParishCoat" "FACTORIALS" "[I") .int) (by decide +kernel)) (va_eqt (hs (.eq (.length (.static "ParishCoat" "FACTORIALS" "[I")) (.int 8)) (by decide +kernel))) (fun j hj => by
    rcases (show j = 0 ∨ j = 1 ∨ j = 2 ∨ j = 3 ∨ j = 4 ∨ j = 5 ∨ j = 6 ∨ j = 7 by omega) with rfl | rfl | rfl | rfl | rfl | rfl | rfl | rfl
    · exact va_eqt (hs (.eq (.elem (.static "ParishCoat" "FACTORIALS" "[I") (.int 0)) (.int 1)) (by decide +kernel))
    · exact va_eqt (hs (.eq (.elem (.static "ParishCoat" "FACTORIALS" "[I") (.int 1)) (.int 1)) (by decide +kernel))
    · exact va_eqt (hs (.eq (.elem (.static "ParishCoat" "FACTORIALS" "[I") (.int 2)) (.int 2)) (by decide +kernel))
    · exact va_eqt (hs (.eq (.elem (.static "ParishCoat" "FACTORIALS" "[I") (.int 3)) (.int 6)) (by decide +kernel))
    · exact va_eqt (hs (.eq (.elem (.static "ParishCoat" "FACTORIALS" "[I") (.int 4)) (.int 24)) (by decide +kernel))
    · exact va_eqt (hs (.eq (.elem (.static "ParishCoat" "FACTORIALS" "[I") (.int 5)) (.int 120)) (by decide +kernel))
    · exact va_eqt (hs (.eq (.elem (.static "ParishCoat" "FACTORIALS" "[I") (.int 6)) (.int 720)) (by decide +kernel))
    · exact va_eqt (hs (.eq (.elem (.static "ParishCoat" "FACTORIALS" "[I") (.int 7)) (.int 5040)) (by decide +kernel))) hA
  exact ⟨t, va_Zof (hts (.laysStatic RX8 "FACTORIALS" "[I") (by decide +kernel)) (hts (.initialized RX8) (by decide +kernel)) h1 hA, h2⟩
set_option maxHeartbeats 8000000 in
set_option maxRecDepth 100000 in
theorem start_NW {s : State} {b : Nat} (hts : ∀ w ∈ lw_tbl, w.before #[Value.ref b] s = true) : NW s := by
  refine ⟨fun q hq => va_Nw.of rfl (hts _ ?_), va_AO.of (hts (.arrayOver (.object RX7)) (by decide +kernel))⟩
  have key : ∀ q ∈ nwL, Cond.methodLinkNest q.1 q.2.1 q.2.2 RX8 ∈ lw_tbl := by decide +kernel
  exact key q hq
set_option maxHeartbeats 8000000 in
set_option maxRecDepth 100000 in
theorem start_K {s : State} {b : Nat} (hts : ∀ w ∈ lw_tbl, w.before #[Value.ref b] s = true) : ∃ (D : va_G) (cyI cyZ cyW : ClassId), va_K D vwCl (tyG cyI cyZ cyW) s := by
  obtain ⟨cX0, iSX0, hKnX0⟩ := u_known (C := RX0) (T := TX0) (N := 2) (n := 2) hts (fun w h => wsL_law_in w (inlX0 w h)) (hts (.instantiable RX0 2) (by decide +kernel))
  obtain ⟨cX1, iSX1, hKnX1⟩ := u_known (C := RX1) (T := TX1) (N := 5) (n := 5) hts (fun w h => wsL_law_in w (inlX1 w h)) (hts (.instantiable RX1 5) (by decide +kernel))
  obtain ⟨cX2, iSX2, hKnX2⟩ := u_known (C := RX2) (T := TX2) (N := 5) (n := 5) hts (fun w h => wsL_law_in w (inlX2 w h)) (hts (.instantiable RX2 5) (by decide +kernel))
  obtain ⟨cX3, iSX3, hKnX3⟩ := u_known (C := RX3) (T := TX3) (N := 5) (n := 5) hts (fun w h => wsL_law_in w (inlX3 w h)) (hts (.instantiable RX3 5) (by decide +kernel))
  obtain ⟨cX4, iSX4, hKnX4⟩ := u_known (C := RX4) (T := TX4) (N := 4) (n := 4) hts (fun w h => wsL_law_in w (inlX4 w h)) (hts (.instantiable RX4 4) (by decide +kernel))
  obtain ⟨cX5, iSX5, hKnX5⟩ := u_known (C := RX5) (T := TX5) (N := 8) (n := 8) hts (fun w h => wsL_law_in w (inlX5 w h)) (hts (.instantiable RX5 8) (by decide +kernel))
  obtain ⟨cX6, iSX6, hKnX6⟩ := u_known (C := RX6) (T := TX6) (N := 4) (n := 4) hts (fun w h => wsL_law_in w (inlX6 w h)) (hts (.instantiable RX6 4) (by decide +kernel))
  obtain ⟨cX7, iSX7, hKnX7⟩ := u_known (C := RX7) (T := TX7) (N := 4) (n := 4) hts (fun w h => wsL_law_in w (inlX7 w h)) (hts (.instantiable RX7 4) (by decide +kernel))
  obtain ⟨cX8, iSX8, hKnX8⟩ := u_known (C := RX8) (T := TX8) (N := 8) (n := 8) hts (fun w h => wsL_law_in w (inlX8 w h)) (hts (.instantiable RX8 8) (by decide +kernel))
  obtain ⟨cX9, iSX9, hKnX9⟩ := u_known (C := RX9) (T := TX9) (N := 21) (n := 21) hts (fun w h => wsL_law_in w (inlX9 w h)) (hts (.instantiable RX9 21) (by decide +kernel))
  obtain ⟨cyI, kI, coI, i1, i2, i3⟩ := Cond.arrayClass_spec (hts (.arrayClass .int) (by decide +kernel))
  obtain ⟨cyZ, kZ, coZ, z1, z2, z3⟩ := Cond.arrayClass_spec (hts (.arrayClass .boolean) (by decide +kernel))
  obtain ⟨coW, cyW, kW, w1, w2, w3, w4, w5⟩ := Cond.arrayOver_spec (va_AO.of (hts (.arrayOver (.object RX7)) (by decide +kernel)))
  refine ⟨(fun k => ([cX0, cX1, cX2, cX3, cX4, cX5, cX6, cX7, cX8, cX9] : List ClassId).getD k cX0, fun k => ([iSX0, iSX1, iSX2, iSX3, iSX4, iSX5, iSX6, iSX7, iSX8, iSX9] : List (Nat → Nat)).getD k iSX0), cyI, cyZ, cyW, ?_, ?_⟩
  · intro k q hq
    match k, hq with
    | 0, hq => cases hq; exact hKnX0
    | 1, hq => cases hq; exact hKnX1
    | 2, hq => cases hq; exact hKnX2
    | 3, hq => cases hq; exact hKnX3
    | 4, hq => cases hq; exact hKnX4
    | 5, hq => cases hq; exact hKnX5
    | 6, hq => cases hq; exact hKnX6
    | 7, hq => cases hq; exact hKnX7
    | 8, hq => cases hq; exact hKnX8
    | 9, hq => cases hq; exact hKnX9
    | k + 10, hq => simp [vwCl] at hq
  · intro k q hq
    match k, hq with
    | 0, hq => cases hq; exact ⟨fun n z => ⟨fun k h => (by cases h), kI, i2, coI, i3⟩, i1⟩
    | 1, hq => cases hq; exact ⟨fun n z => ⟨fun k h => (by cases h), kZ, z2, coZ, z3⟩, z1⟩
    | 2, hq => cases hq; exact ⟨fun n z => ⟨fun k h => (by cases h), kW, w3, coW, w4⟩, kW, coW, w3, w4, w1, w5⟩
    | k + 3, hq => simp [tyG] at hq
def PureLaw : Prop := ∀ (xs : Nat → Int32) (L : Nat), L ≤ 320 → f_L_law_b18 xs L 5000 0 0 0 0 0 0 0 0 0 0 0 0 0 0 (fun _ => 0) (fun _ => 0) 0 0 0 0 3 0 0 3 0 (fun _ => 0) (fun _ => 0) (fun _ => 0) (fun _ => 0) (fun _ => 0) (fun _ => 0) (fun _ => 0) (fun _ => 0) (fun _ => 0) (fun _ => 0) (upd (fun _ => 0) 1 3) (fun _ => 0) 0 0 (fun _ => 0) (fun _ => 0) 0 0 (fun _ => 0) 0 (fun _ => 0) (fun _ => 0) (fun _ => 0) (fun _ => 0) (fun _ => (fun _ => 0)) (fun _ => (fun _ => 0)) (fun _ => 0) (fun _ => 0) (fun _ => 0) (fun _ => (fun _ => 0)) (fun _ => (fun _ => 0)) (fun _ => 0) 0 0 0 (fun _ => 0) 0 0 (fun _ => 0) (fun _ => 0) (fun _ => (fun _ => 0)) (fun _ => (fun _ => 0)) (fun _ => 0) (fun _ => 0) (fun _ => 0) (fun _ => 0) (fun _ => 0) (fun _ => 0) (fun _ => 0) = some 1
set_option maxHeartbeats 80000000 in
set_option maxRecDepth 100000 in
theorem whole_start_open (hpure : PureLaw) {p : Program} {e : Env} {s : State} {m : MethodId} {below : List Frame} {meth : Method} {c : Code} (l : Launch) {b L : Nat} {xs : Nat → Int32} (hL : L ≤ 320) (C0 : lw_At p s m meth c b L xs) : W p l e room_1 s m #[Value.ref b] below meth c s.heap [] 0 0 (lw_Z below #[Value.ref b] s) (entryFrame m ([Value.ref b] : List Value).toArray 4) := by
  obtain ⟨hx, hb, hr, hml, hown, hts, hX, hbl, hlocks, hgv⟩ := id C0
  obtain ⟨D, cyI, cyZ, cyW, hK⟩ := start_K hts
  have C : CX p s m #[Value.ref b] c 4 cL_law RL wsL_law D (tyG cyI cyZ cyW) (fun q : Nat => s.heap.size ≤ q) := ⟨hx, hb, hml, hown, fun w h => hts w (wsL_law_in w h), hK, start_NW hts, fun _ h => h⟩
  have key : ST p l e room_1 s m #[Value.ref b] below meth c 4 D (fun q : Nat => s.heap.size ≤ q) (lw_Z below #[Value.ref b] s) 0 0 [] 0 [(0, .ref b)] [] := by
    refine r_new (ci := 8) (fs := [.null, .null, .null, .null, .null, .null, .null, .null]) C inlX8 tyX8 tyX8_ok (List.mem_of_getElem? (i := 0) rfl) (List.mem_of_getElem? (i := 1) rfl) (List.mem_of_getElem? (i := 2) rfl) rfl dfX8 (Nat.le_of_ble_eq_true rfl) (Nat.le_of_ble_eq_true rfl) dL_law_0 (fun qx => ?_)
    refine ST.eq (ws' := [(qx, .inr (8, [.null, .null, .null, .null, .null, .null, .null, .null]))]) rfl rfl rfl ?_
    refine r_dup C dL_law_3 rfl ?_
    refine r_callI (As := []) (rest := [.ref qx]) (wr := []) C (c_X8_init l D cyI cyZ cyW qx) gL_law_X8_init (List.mem_of_getElem? (i := 6) rfl) rfl (List.mem_of_getElem? (i := 2) rfl) (List.mem_of_getElem? (i := 7) rfl) rfl hyS_X8_init ⟨rfl, rfl, (Nat.le_of_ble_eq_true rfl), (Nat.le_of_ble_eq_true rfl)⟩ rfl [0] [] rfl rfl (by decide) rfl rfl rfl (Nat.le_of_ble_eq_true rfl) ⟨(Nat.le_of_ble_eq_true rfl), (Nat.le_of_ble_eq_true rfl)⟩ dL_law_4 (fun u => ?_)
    refine r_astore_n (lv' := [(1, .ref qx), (0, .ref b)]) C dL_law_7 rfl (by decide) rfl ?_
    refine r_new (ci := 9) (fs := [.null, .null, .null, .int 0, .int 0, .int 0, .int 0, .int 0, .null, .int 0, .null, .int 0, .null, .null, .int 0, .int 0, .int 0, .int 0, .null, .null, .int 0]) C inlX9 tyX9 tyX9_ok (List.mem_of_getElem? (i := 3) rfl) (List.mem_of_getElem? (i := 4) rfl) (List.mem_of_getElem? (i := 5) rfl) rfl dfX9 (Nat.le_of_ble_eq_true rfl) (Nat.le_of_ble_eq_true rfl) dL_law_8 (fun qm => ?_)
    refine r_dup C dL_law_11 rfl ?_
    refine r_callI (As := []) (rest := [.ref qm]) (wr := wn_X8_init cyI cyZ cyW qx u) C (c_X9_init l D cyI cyZ cyW qm) gL_law_X9_init (List.mem_of_getElem? (i := 97) rfl) rfl (List.mem_of_getElem? (i := 5) rfl) (List.mem_of_getElem? (i := 98) rfl) rfl hyS_X9_init ⟨rfl, rfl, (Nat.le_of_ble_eq_true rfl), (Nat.le_of_ble_eq_true rfl)⟩ rfl [78] [0, 1, 2, 3, 4, 5, 6, 7, 8, 9, 10, 11, 12, 13, 14, 15, 16, 17, 18, 19, 20, 21, 22, 23, 24, 25, 26, 27, 28, 29, 30, 31, 32, 33, 34, 35, 36, 37, 38, 39, 40, 41, 42, 43, 44, 45, 46, 47, 48, 49, 50, 51, 52, 53, 54, 55, 56, 57, 58, 59, 60, 61, 62, 63, 64, 65, 66, 67, 68, 69, 70, 71, 72, 73, 74, 75, 76, 77] rfl rfl (by decide) rfl rfl rfl (Nat.le_of_ble_eq_true rfl) ⟨(Nat.le_of_ble_eq_true rfl), (Nat.le_of_ble_eq_true rfl)⟩ dL_law_12 (fun v => ?_)
    refine r_astore_n (lv' := [(2, .ref qm), (1, .ref qx), (0, .ref b)]) C dL_law_15 rfl (by decide) rfl ?_
    refine r_iconst C 0 dL_law_16 (by decide) ?_
    refine r_istore_n (lv' := [(3, .int 0), (2, .ref qm), (1, .ref qx), (0, .ref b)]) C dL_law_17 rfl (by decide) rfl ?_
    refine ST_sub (ws' := (w_L_law cyI cyZ cyW qx (u 0) (u 1) (u 9) (u 15) (u 18) (u 52) (u 56) (u 58) qm (v 0) (v 1) (v 2) 0 0 0 0 0 (v 3) 0 (v 4) 0 (v 5) (v 6) 0 0 0 0 (v 7) (v 8) 0 (u 2) 0 (fun _ => 0) (fun _ => 0) (u 3) 0 0 0 0 3 0 (u 10) (u 11) (u 12) (u 13) (u 14) 0 3 0 (u 4) (u 5) (u 6) (u 7) (u 8) (fun _ => 0) (fun _ => 0) (fun _ => 0) (fun _ => 0) (fun _ => 0) (fun _ => 0) (fun _ => 0) (fun _ => 0) (fun _ => 0) (fun _ => 0) (upd (fun _ => 0) 1 3) (fun _ => 0) 0 0 (u 16) (u 17) (fun _ => 0) (fun _ => 0) (u 19) 0 0 (u 20) (u 21) (fun _ => 0) (u 53) (u 54) (u 55) 0 (fun _ => 0) (fun _ => 0) (fun k => ([(u 22), (u 25), (u 28), (u 31), (u 34), (u 37), (u 40), (u 43)] : List Nat).getD k 0) (fun _ => 0) (fun _ => 0) (fun k => ([(u 23), (u 26), (u 29), (u 32), (u 35), (u 38), (u 41), (u 44)] : List Nat).getD k 0) (fun k => ([(u 24), (u 27), (u 30), (u 33), (u 36), (u 39), (u 42), (u 45)] : List Nat).getD k 0) (fun _ => (fun _ => 0)) (fun _ => (fun _ => 0)) (fun _ => 0) (fun k => ([(u 46), (u 49)] : List Nat).getD k 0) (fun _ => 0) (fun _ => 0) (fun k => ([(u 47), (u 50)] : List Nat).getD k 0) (fun k => ([(u 48), (u 51)] : List Nat).getD k 0) (fun _ => (fun _ => 0)) (fun _ => (fun _ => 0)) (fun _ => 0) 0 0 0 (u 57) (fun _ => 0) 0 0 (u 59) (u 60) (u 61) (fun k => ([(u 62), (u 65), (u 68), (u 71), (u 74)] : List Nat).getD k 0) (fun _ => 0) (fun _ => 0) (fun k => ([(u 63), (u 66), (u 69), (u 72), (u 75)] : List Nat).getD k 0) (fun k => ([(u 64), (u 67), (u 70), (u 73), (u 76)] : List Nat).getD k 0) (fun _ => (fun _ => 0)) (fun _ => (fun _ => 0)) (fun _ => 0) (fun _ => 0) (fun _ => 0) (fun _ => 0) (fun _ => 0) (fun _ => 0) (fun _ => 0))) [0, 78, 2, 3, 81, 1, 10, 4, 11, 5, 12, 6, 13, 7, 14, 8, 15, 9, 79, 82, 16, 17, 18, 19, 22, 53, 80, 84, 20, 23, 26, 29, 32, 35, 38, 41, 44, 24, 27, 30, 33, 36, 39, 42, 45, 25, 28, 31, 34, 37, 40, 43, 46, 83, 21, 47, 50, 48, 51, 49, 52, 85, 57, 58, 59, 62, 63, 66, 69, 72, 75, 64, 67, 70, 73, 76, 65, 68, 71, 74, 77, 61, 60, 86, 54, 55, 56, 87] (by decide) rfl ?_
    refine ST.wd (k := 1000) (n := 10000) (by decide) (by decide) ?_
    exact ST_lv [3, 2, 1, 0] rfl (law_loop C hX hbl (Nat.not_le.mpr hbl) ⟨hr, hlocks, hx, hb⟩ (start_OU hts hgv) (start_OF hts hgv) qx (u 0) (u 1) (u 9) (u 15) (u 18) (u 52) (u 56) (u 58) qm (v 0) (v 1) (v 2) (v 3) (v 4) (v 5) (v 6) (v 7) (v 8) (u 2) (u 3) (u 10) (u 11) (u 12) (u 13) (u 14) (u 4) (u 5) (u 6) (u 7) (u 8) (u 16) (u 17) (u 19) (u 20) (u 21) (u 53) (u 54) (u 55) (fun k => ([(u 22), (u 25), (u 28), (u 31), (u 34), (u 37), (u 40), (u 43)] : List Nat).getD k 0) (fun k => ([(u 23), (u 26), (u 29), (u 32), (u 35), (u 38), (u 41), (u 44)] : List Nat).getD k 0) (fun k => ([(u 24), (u 27), (u 30), (u 33), (u 36), (u 39), (u 42), (u 45)] : List Nat).getD k 0) (fun k => ([(u 46), (u 49)] : List Nat).getD k 0) (fun k => ([(u 47), (u 50)] : List Nat).getD k 0) (fun k => ([(u 48), (u 51)] : List Nat).getD k 0) (u 57) (u 59) (u 60) (u 61) (fun k => ([(u 62), (u 65), (u 68), (u 71), (u 74)] : List Nat).getD k 0) (fun k => ([(u 63), (u 66), (u 69), (u 72), (u 75)] : List Nat).getD k 0) (fun k => ([(u 64), (u 67), (u 70), (u 73), (u 76)] : List Nat).getD k 0) 5000 (Nat.le_refl _) 1000 10000 (by decide) (by decide) 0 0 0 0 0 0 0 0 0 0 0 0 0 0 (fun _ => 0) (fun _ => 0) 0 0 0 0 3 0 0 3 0 (fun _ => 0) (fun _ => 0) (fun _ => 0) (fun _ => 0) (fun _ => 0) (fun _ => 0) (fun _ => 0) (fun _ => 0) (fun _ => 0) (fun _ => 0) (upd (fun _ => 0) 1 3) (fun _ => 0) 0 0 (fun _ => 0) (fun _ => 0) 0 0 (fun _ => 0) 0 (fun _ => 0) (fun _ => 0) (fun _ => 0) (fun _ => 0) (fun _ => (fun _ => 0)) (fun _ => (fun _ => 0)) (fun _ => 0) (fun _ => 0) (fun _ => 0) (fun _ => (fun _ => 0)) (fun _ => (fun _ => 0)) (fun _ => 0) 0 0 0 (fun _ => 0) 0 0 (fun _ => 0) (fun _ => 0) (fun _ => (fun _ => 0)) (fun _ => (fun _ => 0)) (fun _ => 0) (fun _ => 0) (fun _ => 0) (fun _ => 0) (fun _ => 0) (fun _ => 0) (fun _ => 0) (hpure xs L hL))
  have hl := lv_entry ([.ref b]) (n := 4) (Nat.le_of_ble_eq_true rfl)
  rw [lg_entry_eq]
  exact key s.heap [] _ (fun k q h => by simp at h) ⟨fun i j p q h => by simp at h, fun k q h => by simp at h⟩ va_S.rf hl
