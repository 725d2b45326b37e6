theorem p_fr0 : ∀ k, k ≤ 6 → ∀ q, q ≤ 10 → ∀ p, p < 2 → f_X8_frosts (nI 0) (nI k) (nI q) (nI p) = f_X9_frosts (nI 0) (nI k) (nI q) (nI p) ∧ (f_X8_frosts (nI 0) (nI k) (nI q) (nI p)).isSome = true := by decide +kernel
theorem p_fr1 : ∀ k, k ≤ 6 → ∀ q, q ≤ 10 → ∀ p, p < 2 → f_X8_frosts (nI 1) (nI k) (nI q) (nI p) = f_X9_frosts (nI 1) (nI k) (nI q) (nI p) ∧ (f_X8_frosts (nI 1) (nI k) (nI q) (nI p)).isSome = true := by decide +kernel
theorem p_fr2 : ∀ k, k ≤ 6 → ∀ q, q ≤ 10 → ∀ p, p < 2 → f_X8_frosts (nI 2) (nI k) (nI q) (nI p) = f_X9_frosts (nI 2) (nI k) (nI q) (nI p) ∧ (f_X8_frosts (nI 2) (nI k) (nI q) (nI p)).isSome = true := by decide +kernel
theorem p_fr3 : ∀ k, k ≤ 6 → ∀ q, q ≤ 10 → ∀ p, p < 2 → f_X8_frosts (nI 3) (nI k) (nI q) (nI p) = f_X9_frosts (nI 3) (nI k) (nI q) (nI p) ∧ (f_X8_frosts (nI 3) (nI k) (nI q) (nI p)).isSome = true := by decide +kernel
theorem p_fr4 : ∀ k, k ≤ 6 → ∀ q, q ≤ 10 → ∀ p, p < 2 → f_X8_frosts (nI 4) (nI k) (nI q) (nI p) = f_X9_frosts (nI 4) (nI k) (nI q) (nI p) ∧ (f_X8_frosts (nI 4) (nI k) (nI q) (nI p)).isSome = true := by decide +kernel
theorem p_fr5 : ∀ k, k ≤ 6 → ∀ q, q ≤ 10 → ∀ p, p < 2 → f_X8_frosts (nI 5) (nI k) (nI q) (nI p) = f_X9_frosts (nI 5) (nI k) (nI q) (nI p) ∧ (f_X8_frosts (nI 5) (nI k) (nI q) (nI p)).isSome = true := by decide +kernel
theorem p_fr6 : ∀ k, k ≤ 6 → ∀ q, q ≤ 10 → ∀ p, p < 2 → f_X8_frosts (nI 6) (nI k) (nI q) (nI p) = f_X9_frosts (nI 6) (nI k) (nI q) (nI p) ∧ (f_X8_frosts (nI 6) (nI k) (nI q) (nI p)).isSome = true := by decide +kernel
theorem q_frosts (x y z p : Int32) : ∃ r, f_X8_frosts x y z p = some r ∧ f_X9_frosts x y z p = some r := by
  have e0 : (0 : Int32).toInt = 0 := rfl
  have out : ∀ {hi : Nat} {w : Int32}, hi < 100 → (w < 0 ∨ ¬ w ≤ nI hi) → ¬ w < 0 → nI hi < w := fun {hi w} hh ho hn => by
    have h1 := ho.resolve_left hn
    apply Int32.lt_iff_toInt_lt.mpr
    have h2 : ¬ w.toInt ≤ (nI hi).toInt := fun q => h1 (Int32.le_iff_toInt_le.mpr q)
    omega
  have inn : ∀ {hi : Nat} {w : Int32}, w ≤ nI hi → ¬ nI hi < w := fun {hi w} h q => by
    have a := Int32.le_iff_toInt_le.mp h
    have b := Int32.lt_iff_toInt_lt.mp q
    omega
  rcases p_rng (hi := 6) (by decide) x with ⟨n, hn, hx, n1, n2, n9⟩ | ⟨ho, n9⟩
  · rcases p_rng (hi := 6) (by decide) y with ⟨k, hk, hy, k1, k2, k9⟩ | ⟨ho, k9⟩
    · rcases p_rng (hi := 10) (by decide) z with ⟨q, hq, hz, q1, q2, q9⟩ | ⟨ho, q9⟩
      · rcases p_rng (hi := 1) (by decide) p with ⟨j, hj, hp, j1, j2, j9⟩ | ⟨ho, j9⟩
        · subst hx; subst hy; subst hz; subst hp
          have key : f_X8_frosts (nI n) (nI k) (nI q) (nI j) = f_X9_frosts (nI n) (nI k) (nI q) (nI j) ∧ (f_X8_frosts (nI n) (nI k) (nI q) (nI j)).isSome = true := by
            rcases (show n = 0 ∨ n = 1 ∨ n = 2 ∨ n = 3 ∨ n = 4 ∨ n = 5 ∨ n = 6 by omega) with rfl | rfl | rfl | rfl | rfl | rfl | rfl
            · exact p_fr0 k hk q hq j (by omega)
            · exact p_fr1 k hk q hq j (by omega)
            · exact p_fr2 k hk q hq j (by omega)
            · exact p_fr3 k hk q hq j (by omega)
            · exact p_fr4 k hk q hq j (by omega)
            · exact p_fr5 k hk q hq j (by omega)
            · exact p_fr6 k hk q hq j (by omega)
          exact ex_same key.1 key.2
        · have j9' : f_X9_in (Int32.toInt64 p) 0 1 = some 0 := j9
          have n9' : f_X9_in (Int32.toInt64 x) 0 6 = some 1 := n9
          have k9' : f_X9_in (Int32.toInt64 y) 0 6 = some 1 := k9
          have q9' : f_X9_in (Int32.toInt64 z) 0 10 = some 1 := q9
          have y8 : f_X8_isYesOrNo p = some 0 := by
            rcases p_yn p with ⟨b, -, -, w⟩ | ⟨w, -⟩
            · rw [j9'] at w; cases w
            · exact w
          refine ⟨-3, ?_, ?_⟩
          · unfold f_X8_frosts
            rw [if_neg n1, if_neg (show ¬ (6 : Int32) < x from inn n2), if_neg k1, if_pos (show y ≤ 6 from k2), if_neg q1, if_neg (show ¬ (10 : Int32) < z from inn q2), y8]; rfl
          · unfold f_X9_frosts
            rw [n9', k9', q9', j9']; rfl
      · have n9' : f_X9_in (Int32.toInt64 x) 0 6 = some 1 := n9
        have k9' : f_X9_in (Int32.toInt64 y) 0 6 = some 1 := k9
        have q9' : f_X9_in (Int32.toInt64 z) 0 10 = some 0 := q9
        refine ⟨-3, ?_, ?_⟩
        · unfold f_X8_frosts
          rw [if_neg n1, if_neg (show ¬ (6 : Int32) < x from inn n2), if_neg k1, if_pos (show y ≤ 6 from k2)]
          by_cases h1 : z < 0
          · rw [if_pos h1]
          · rw [if_neg h1, if_pos (show (10 : Int32) < z from out (by decide) ho h1)]
        · unfold f_X9_frosts
          rw [n9', k9', q9']; rfl
    · have n9' : f_X9_in (Int32.toInt64 x) 0 6 = some 1 := n9
      have k9' : f_X9_in (Int32.toInt64 y) 0 6 = some 0 := k9
      refine ⟨-3, ?_, ?_⟩
      · unfold f_X8_frosts
        rw [if_neg n1, if_neg (show ¬ (6 : Int32) < x from inn n2)]
        by_cases h1 : y < 0
        · rw [if_pos h1]
        · rw [if_neg h1, if_neg (show ¬ y ≤ 6 from ho.resolve_left h1)]
      · unfold f_X9_frosts
        rw [n9', k9']; rfl
  · have n9' : f_X9_in (Int32.toInt64 x) 0 6 = some 0 := n9
    refine ⟨-3, ?_, ?_⟩
    · unfold f_X8_frosts
      by_cases h1 : x < 0
      · rw [if_pos h1]
      · rw [if_neg h1, if_pos (show (6 : Int32) < x from out (by decide) ho h1)]
    · unfold f_X9_frosts
      rw [n9']; rfl
