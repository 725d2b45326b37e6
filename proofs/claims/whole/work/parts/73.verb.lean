def wL (i : Nat) : List Nat := ([[98, 111, 110, 101], [98, 114, 97, 115, 115], [112, 101, 97, 114, 108], [108, 111, 111, 115, 101], [102, 97, 118, 111, 117, 114], [102, 101, 117, 100], [113, 117, 111, 116, 97], [99, 111, 108, 100], [109, 105, 108, 100], [99, 111, 97, 116]] : List (List Nat)).getD i []
def wG (i j : Nat) : Nat := (wL i).getD j 0
def wN (i : Nat) : Nat := (wL i).length
def wD (t : Nat → Nat) (s e i : Nat) : Bool := mW t s e (wN i) (wG i)
theorem wG_b : ∀ i, i < 10 → wN i ≤ 6 ∧ 4 ≤ wN i ∧ ∀ j, j < wN i → 97 ≤ wG i j ∧ wG i j ≤ 122 := by decide +kernel
theorem p_wd8 {len s e : Nat} {t : Nat → Nat} {letters : Nat → Int32} (hl : len ≤ 160) (ht : ∀ j, j < len → letters j = nI (t j)) (hb : ∀ j, j < len → t j ≤ 255) (hse : s ≤ e) (hel : e ≤ len) {i N : Nat} {L : List Int32} (hi : i < 10) (hN : N = wN i) (hL : ∀ j, j < N → chS (bS L) (nI j) = nI (wG i j) ∧ wG i j ≤ 255) : f_X2_isWord N (bS L) (nI s) (nI e) (nI len) letters = some (b2 (wD t s e i)) := by
  subst hN
  have := (wG_b i hi).1
  exact p_isWord hl ht hb hse hel (by omega) hL
theorem c_0 : ∀ j, j < 4 → chS (bS [98, 111, 110, 101]) (nI j) = nI (wG 0 j) ∧ wG 0 j ≤ 255 := by decide +kernel
theorem c_1 : ∀ j, j < 5 → chS (bS [98, 114, 97, 115, 115]) (nI j) = nI (wG 1 j) ∧ wG 1 j ≤ 255 := by decide +kernel
theorem c_2 : ∀ j, j < 5 → chS (bS [112, 101, 97, 114, 108]) (nI j) = nI (wG 2 j) ∧ wG 2 j ≤ 255 := by decide +kernel
theorem c_3 : ∀ j, j < 5 → chS (bS [108, 111, 111, 115, 101]) (nI j) = nI (wG 3 j) ∧ wG 3 j ≤ 255 := by decide +kernel
theorem c_4 : ∀ j, j < 6 → chS (bS [102, 97, 118, 111, 117, 114]) (nI j) = nI (wG 4 j) ∧ wG 4 j ≤ 255 := by decide +kernel
theorem c_5 : ∀ j, j < 4 → chS (bS [102, 101, 117, 100]) (nI j) = nI (wG 5 j) ∧ wG 5 j ≤ 255 := by decide +kernel
theorem c_6 : ∀ j, j < 5 → chS (bS [113, 117, 111, 116, 97]) (nI j) = nI (wG 6 j) ∧ wG 6 j ≤ 255 := by decide +kernel
theorem c_7 : ∀ j, j < 4 → chS (bS [99, 111, 108, 100]) (nI j) = nI (wG 7 j) ∧ wG 7 j ≤ 255 := by decide +kernel
theorem c_8 : ∀ j, j < 4 → chS (bS [109, 105, 108, 100]) (nI j) = nI (wG 8 j) ∧ wG 8 j ≤ 255 := by decide +kernel
theorem c_9 : ∀ j, j < 4 → chS (bS [99, 111, 97, 116]) (nI j) = nI (wG 9 j) ∧ wG 9 j ≤ 255 := by decide +kernel
theorem b2z (b : Bool) {α : Type} (x y : α) : (if b2 b = 0 then x else y) = (if b = true then y else x) := by cases b <;> rfl
theorem p_wordHere {len s e : Nat} {t : Nat → Nat} {letters : Nat → Int32} (hl : len ≤ 160) (ht : ∀ j, j < len → letters j = nI (t j)) (hb : ∀ j, j < len → t j ≤ 255) (hse : s ≤ e) (hel : e ≤ len) : f_X2_wordHere (nI s) (nI e) (nI len) letters = some (if wD t s e 0 = true then 0 else if wD t s e 1 = true then 1 else if wD t s e 2 = true then 2 else if wD t s e 3 = true then 3 else if wD t s e 4 = true then 4 else if wD t s e 5 = true then 5 else if wD t s e 6 = true then 6 else if wD t s e 7 = true then 7 else if wD t s e 8 = true then 8 else if wD t s e 9 = true then 9 else -1) := by
  unfold f_X2_wordHere
  rw [p_wd8 hl ht hb hse hel (i := 0) (N := 4) (by decide) rfl c_0, p_wd8 hl ht hb hse hel (i := 1) (N := 5) (by decide) rfl c_1, p_wd8 hl ht hb hse hel (i := 2) (N := 5) (by decide) rfl c_2, p_wd8 hl ht hb hse hel (i := 3) (N := 5) (by decide) rfl c_3, p_wd8 hl ht hb hse hel (i := 4) (N := 6) (by decide) rfl c_4, p_wd8 hl ht hb hse hel (i := 5) (N := 4) (by decide) rfl c_5, p_wd8 hl ht hb hse hel (i := 6) (N := 5) (by decide) rfl c_6, p_wd8 hl ht hb hse hel (i := 7) (N := 4) (by decide) rfl c_7, p_wd8 hl ht hb hse hel (i := 8) (N := 4) (by decide) rfl c_8, p_wd8 hl ht hb hse hel (i := 9) (N := 4) (by decide) rfl c_9]
  simp only [bs, b2z]
  repeat' split
  all_goals rfl
theorem s_0 : f_X9_spelt 98 111 110 101 0 0 0 = some (lN (valF (wG 0) (wN 0))) := by decide +kernel
theorem s_1 : f_X9_spelt 98 114 97 115 115 0 0 = some (lN (valF (wG 1) (wN 1))) := by decide +kernel
theorem s_2 : f_X9_spelt 112 101 97 114 108 0 0 = some (lN (valF (wG 2) (wN 2))) := by decide +kernel
theorem s_3 : f_X9_spelt 108 111 111 115 101 0 0 = some (lN (valF (wG 3) (wN 3))) := by decide +kernel
theorem s_4 : f_X9_spelt 102 97 118 111 117 114 0 = some (lN (valF (wG 4) (wN 4))) := by decide +kernel
theorem s_5 : f_X9_spelt 102 101 117 100 0 0 0 = some (lN (valF (wG 5) (wN 5))) := by decide +kernel
theorem s_6 : f_X9_spelt 113 117 111 116 97 0 0 = some (lN (valF (wG 6) (wN 6))) := by decide +kernel
theorem s_7 : f_X9_spelt 99 111 108 100 0 0 0 = some (lN (valF (wG 7) (wN 7))) := by decide +kernel
theorem s_8 : f_X9_spelt 109 105 108 100 0 0 0 = some (lN (valF (wG 8) (wN 8))) := by decide +kernel
theorem s_9 : f_X9_spelt 99 111 97 116 0 0 0 = some (lN (valF (wG 9) (wN 9))) := by decide +kernel
theorem z_w : ∀ i, i < 10 → ¬ lg_cmp (0 : Int64) (lN (valF (wG i) (wN i))) = 0 := by decide +kernel
theorem tok_1 {len p : Nat} {t : Nat → Nat} (h : tokK len t p = 1) : ∀ j, tokS len t p ≤ j → j < tokE len t p → 97 ≤ t j ∧ t j ≤ 122 := by
  have hs : isS len t (tokS len t p) = true := by
    unfold tokK at h
    split at h
    · assumption
    · split at h
      · omega
      · split at h <;> omega
  have eE : tokE len t p = scan (isS len t) (len - tokS len t p) (tokS len t p) := by unfold tokE; rw [hs]; rfl
  intro j h1 h2
  rw [eE] at h2
  exact (isS_d (scan_in _ _ _ _ h1 h2)).2
theorem mW_first {s e N : Nat} {t g : Nat → Nat} (h : mW t s e N g = true) (hN : 0 < N) : e - s = N ∧ t s = g 0 := by
  unfold mW at h
  rw [Bool.and_eq_true, decide_eq_true_eq, allB_iff] at h
  exact ⟨h.1, by simpa using h.2 0 hN⟩
theorem tok_n1 {len p : Nat} {t : Nat → Nat} (hp : p ≤ len) (h : ¬ tokK len t p = 1) {i : Nat} (hi : i < 10) : wD t (tokS len t p) (tokE len t p) i = false := by
  cases hw : wD t (tokS len t p) (tokE len t p) i with
  | false => rfl
  | true =>
    exfalso
    obtain ⟨b1, b2', b3⟩ := wG_b i hi
    obtain ⟨e1, e2⟩ := mW_first hw (by omega)
    have g0 := b3 0 (by omega)
    have hts := tok_b (t := t) hp
    have hns : isS len t (tokS len t p) = false := by
      cases hs : isS len t (tokS len t p) with
      | false => rfl
      | true => exact absurd (by unfold tokK; rw [hs]; rfl) h
    have : isS len t (tokS len t p) = true := by
      unfold isS
      rw [e2]
      simp only [Bool.and_eq_true, decide_eq_true_eq]
      exact ⟨by omega, g0.1, g0.2⟩
    rw [this] at hns
    cases hns
theorem iff_b {P : Prop} [Decidable P] {b : Bool} (h : P ↔ b = true) {α : Type} (x y : α) : (if P then x else y) = (if b = true then x else y) := by
  by_cases hb : b = true
  · rw [if_pos (h.mpr hb), if_pos hb]
  · rw [if_neg (fun q => hb (h.mp q)), if_neg hb]
theorem p_verb {len p : Nat} {t : Nat → Nat} {text : Nat → Int32} (hl : len ≤ 160) (ht : ∀ j, j < len → text j = nI (t j)) (hb : ∀ j, j < len → t j ≤ 255) (hp : p ≤ len) : f_X9_verb (nI (tokE len t p)) (nI (tokK len t p)) (nI (tokS len t p)) text = some (if wD t (tokS len t p) (tokE len t p) 0 = true then 0 else if wD t (tokS len t p) (tokE len t p) 1 = true then 1 else if wD t (tokS len t p) (tokE len t p) 2 = true then 2 else if wD t (tokS len t p) (tokE len t p) 3 = true then 3 else if wD t (tokS len t p) (tokE len t p) 9 = true then 4 else if wD t (tokS len t p) (tokE len t p) 4 = true then 5 else if wD t (tokS len t p) (tokE len t p) 5 = true then 6 else if wD t (tokS len t p) (tokE len t p) 6 = true then 7 else if wD t (tokS len t p) (tokE len t p) 7 = true then 8 else if wD t (tokS len t p) (tokE len t p) 8 = true then 9 else -1) := by
  have hts := tok_b (t := t) hp
  have hk := tokK_b len t p
  unfold f_X9_verb
  rw [s_0, s_1, s_2, s_3, s_4, s_5, s_6, s_7, s_8, s_9]
  simp only [bs]
  by_cases h1 : tokK len t p = 1
  · have hw := p_wordOf hl ht (tok_1 h1) hts.2.1 hts.2.2
    rw [show nI (tokK len t p) = 1 by rw [h1]; rfl, hw, bs]
    have m : ∀ i, i < 10 → ((lg_cmp (lN (valF (fun j => t (tokS len t p + j)) (min (tokE len t p - tokS len t p) 9))) (lN (valF (wG i) (wN i))) = 0) ↔ wD t (tokS len t p) (tokE len t p) i = true) := fun i hi => by
      obtain ⟨b1, b2', b3⟩ := wG_b i hi
      exact p_match (tok_1 h1) hts.2.1 (by omega) b3
    rw [iff_b (m 0 (by decide)), iff_b (m 1 (by decide)), iff_b (m 2 (by decide)), iff_b (m 3 (by decide)), iff_b (m 4 (by decide)), iff_b (m 5 (by decide)), iff_b (m 6 (by decide)), iff_b (m 7 (by decide)), iff_b (m 8 (by decide)), iff_b (m 9 (by decide))]
    repeat' split
    all_goals rfl
  · have hw : f_X9_wordOf (nI (tokE len t p)) (nI (tokK len t p)) (nI (tokS len t p)) text = some 0 ∨ ∃ w, f_X9_wordOf (nI (tokE len t p)) (nI (tokK len t p)) (nI (tokS len t p)) text = some w ∧ w = 0 := by
      right
      have loop : ∀ (m r F : Nat) (x : Int64), r + m = tokE len t p → m < F → ∃ w, f_X9_wordOf_b7 (nI (tokE len t p)) (nI (tokK len t p)) (nI (tokS len t p)) text F x (nI r) = some w ∧ w = 0 := by
        have en : ¬ nI (tokK len t p) = 1 := fun q => h1 ((nI_eq (a := tokK len t p) (b := 1) (by omega) (by omega)).mp q)
        intro m
        induction m with
        | zero =>
          intro r F x hr hF
          obtain ⟨F, rfl⟩ : ∃ F', F = F' + 1 := ⟨F - 1, by omega⟩
          refine ⟨0, ?_, rfl⟩
          show f_X9_wordOf_s7 _ _ _ text (f_X9_wordOf_b7 (nI (tokE len t p)) (nI (tokK len t p)) (nI (tokS len t p)) text F) x (nI r) = _
          unfold f_X9_wordOf_s7 f_X9_wordOf_b52
          rw [if_pos (nI_le (show tokE len t p ≤ r by omega) (by omega)), if_neg en]
        | succ m ih =>
          intro r F x hr hF
          obtain ⟨F, rfl⟩ : ∃ F', F = F' + 1 := ⟨F - 1, by omega⟩
          show ∃ w, f_X9_wordOf_s7 _ _ _ text (f_X9_wordOf_b7 (nI (tokE len t p)) (nI (tokK len t p)) (nI (tokS len t p)) text F) x (nI r) = some w ∧ w = 0
          unfold f_X9_wordOf_s7 f_X9_wordOf_b52
          rw [if_neg (nI_ge (show r < tokE len t p by omega) (by omega)), if_neg en]
          by_cases h9 : nI (tokS len t p) + 9 ≤ nI r
          · rw [if_pos h9]; exact ⟨0, rfl, rfl⟩
          · rw [if_neg h9, gd_nI (by omega) (by omega), nI_1]
            exact ih (r + 1) F _ (by omega) (by omega)
      exact loop (tokE len t p - tokS len t p) (tokS len t p) 5000 0 (by omega) (by omega)
    have hw' : f_X9_wordOf (nI (tokE len t p)) (nI (tokK len t p)) (nI (tokS len t p)) text = some 0 := by
      rcases hw with q | ⟨w, q1, q2⟩
      · exact q
      · rw [q1, q2]
    rw [hw', bs]
    simp only [if_neg (z_w 0 (by decide)), if_neg (z_w 1 (by decide)), if_neg (z_w 2 (by decide)), if_neg (z_w 3 (by decide)), if_neg (z_w 4 (by decide)), if_neg (z_w 5 (by decide)), if_neg (z_w 6 (by decide)), if_neg (z_w 7 (by decide)), if_neg (z_w 8 (by decide)), if_neg (z_w 9 (by decide))]
    rw [tok_n1 hp h1 (i := 0) (by decide), tok_n1 hp h1 (i := 1) (by decide), tok_n1 hp h1 (i := 2) (by decide), tok_n1 hp h1 (i := 3) (by decide), tok_n1 hp h1 (i := 4) (by decide), tok_n1 hp h1 (i := 5) (by decide), tok_n1 hp h1 (i := 6) (by decide), tok_n1 hp h1 (i := 7) (by decide), tok_n1 hp h1 (i := 8) (by decide), tok_n1 hp h1 (i := 9) (by decide)]
    rfl
theorem w_two {t : Nat → Nat} {s e i k : Nat} (hi : i < 10) (hk : k < 10) (h1 : wD t s e i = true) (h2 : wD t s e k = true) : i = k := by
  unfold wD mW at h1 h2
  rw [Bool.and_eq_true, decide_eq_true_eq, allB_iff] at h1 h2
  have hN : wN i = wN k := by omega
  have hj : ∀ j, j < wN i → wG i j = wG k j := fun j hj => by
    have a : t (s + j) = wG i j := by simpa using h1.2 j hj
    have b : t (s + j) = wG k j := by simpa using h2.2 j (by omega)
    omega
  have key : ∀ i, i < 10 → ∀ k, k < 10 → wN i = wN k → (∀ j, j < wN i → wG i j = wG k j) → i = k := by decide +kernel
  exact key i hi k hk hN hj
def prm (i : Nat) : Nat := ([0, 1, 2, 3, 5, 6, 7, 8, 9, 4] : List Nat).getD i 0
theorem p_clw {len p : Nat} {t : Nat → Nat} {letters text : Nat → Int32} (hl : len ≤ 160) (h8 : ∀ j, j < len → letters j = nI (t j)) (h9 : ∀ j, j < len → text j = nI (t j)) (hb : ∀ j, j < len → t j ≤ 255) (hp : p ≤ len) : (f_X2_wordHere (nI (tokS len t p)) (nI (tokE len t p)) (nI len) letters = some (-1) ∧ f_X9_verb (nI (tokE len t p)) (nI (tokK len t p)) (nI (tokS len t p)) text = some (-1)) ∨ ∃ i, i < 10 ∧ f_X2_wordHere (nI (tokS len t p)) (nI (tokE len t p)) (nI len) letters = some (nI i) ∧ f_X9_verb (nI (tokE len t p)) (nI (tokK len t p)) (nI (tokS len t p)) text = some (nI (prm i)) := by
  have hts := tok_b (t := t) hp
  rw [p_wordHere hl h8 hb hts.2.1 hts.2.2, p_verb hl h9 hb hp]
  by_cases w0 : wD t (tokS len t p) (tokE len t p) 0 = true
  · exact Or.inr ⟨0, by decide, by rw [if_pos w0]; rfl, by rw [if_pos w0]; rfl⟩
  rw [if_neg w0, if_neg w0]
  by_cases w1 : wD t (tokS len t p) (tokE len t p) 1 = true
  · exact Or.inr ⟨1, by decide, by rw [if_pos w1]; rfl, by rw [if_pos w1]; rfl⟩
  rw [if_neg w1, if_neg w1]
  by_cases w2 : wD t (tokS len t p) (tokE len t p) 2 = true
  · exact Or.inr ⟨2, by decide, by rw [if_pos w2]; rfl, by rw [if_pos w2]; rfl⟩
  rw [if_neg w2, if_neg w2]
  by_cases w3 : wD t (tokS len t p) (tokE len t p) 3 = true
  · exact Or.inr ⟨3, by decide, by rw [if_pos w3]; rfl, by rw [if_pos w3]; rfl⟩
  rw [if_neg w3, if_neg w3]
  by_cases w9 : wD t (tokS len t p) (tokE len t p) 9 = true
  · have n : ∀ k, k < 10 → k ≠ 9 → ¬ wD t (tokS len t p) (tokE len t p) k = true := fun k hk hne q => hne (w_two hk (by decide) q w9)
    refine Or.inr ⟨9, by decide, ?_, by rw [if_pos w9]; rfl⟩
    rw [if_neg (n 4 (by decide) (by decide)), if_neg (n 5 (by decide) (by decide)), if_neg (n 6 (by decide) (by decide)), if_neg (n 7 (by decide) (by decide)), if_neg (n 8 (by decide) (by decide)), if_pos w9]
    rfl
  rw [if_neg w9, if_neg w9]
  by_cases w4 : wD t (tokS len t p) (tokE len t p) 4 = true
  · exact Or.inr ⟨4, by decide, by rw [if_pos w4]; rfl, by rw [if_pos w4]; rfl⟩
  rw [if_neg w4, if_neg w4]
  by_cases w5 : wD t (tokS len t p) (tokE len t p) 5 = true
  · exact Or.inr ⟨5, by decide, by rw [if_pos w5]; rfl, by rw [if_pos w5]; rfl⟩
  rw [if_neg w5, if_neg w5]
  by_cases w6 : wD t (tokS len t p) (tokE len t p) 6 = true
  · exact Or.inr ⟨6, by decide, by rw [if_pos w6]; rfl, by rw [if_pos w6]; rfl⟩
  rw [if_neg w6, if_neg w6]
  by_cases w7 : wD t (tokS len t p) (tokE len t p) 7 = true
  · exact Or.inr ⟨7, by decide, by rw [if_pos w7]; rfl, by rw [if_pos w7]; rfl⟩
  rw [if_neg w7, if_neg w7]
  by_cases w8 : wD t (tokS len t p) (tokE len t p) 8 = true
  · exact Or.inr ⟨8, by decide, by rw [if_pos w8]; rfl, by rw [if_pos w8]; rfl⟩
  rw [if_neg w8, if_neg w8]
  exact Or.inl ⟨rfl, rfl⟩
