theorem lgc1 {x y : Int64} : lg_cmp x y < 0 ↔ x < y := by
  unfold lg_cmp
  rcases Int.lt_trichotomy x.toInt y.toInt with h | h | h
  · have h1 : x < y := Int64.lt_iff_toInt_lt.mpr h
    have h2 : ¬ x > y := fun q => by have := Int64.lt_iff_toInt_lt.mp q; omega
    have h3 : ¬ x = y := fun q => by rw [q] at h; omega
    rw [if_neg h2, if_neg h3]
    exact ⟨fun _ => h1, fun _ => by decide⟩
  · have h1 : ¬ x < y := fun q => by have := Int64.lt_iff_toInt_lt.mp q; omega
    have h2 : ¬ x > y := fun q => by have := Int64.lt_iff_toInt_lt.mp q; omega
    have h3 : x = y := Int64.toInt_inj.mp h
    rw [if_neg h2, if_pos h3]
    exact ⟨fun q => absurd q (by decide), fun q => absurd q h1⟩
  · have h1 : ¬ x < y := fun q => by have := Int64.lt_iff_toInt_lt.mp q; omega
    have h2 : x > y := Int64.lt_iff_toInt_lt.mpr h
    rw [if_pos h2]
    exact ⟨fun q => absurd q (by decide), fun q => absurd q h1⟩
theorem lgc2 {x y : Int64} : 0 < lg_cmp x y ↔ y < x := by
  unfold lg_cmp
  by_cases h : x > y
  · rw [if_pos h]
    exact ⟨fun _ => h, fun _ => by decide⟩
  · rw [if_neg h]
    refine ⟨fun q => ?_, fun q => absurd q h⟩
    split at q
    · exact absurd q (by decide)
    · exact absurd q (by decide)
theorem p_in (x lo hi : Int64) : f_X9_in x lo hi = some (if lo ≤ x ∧ x ≤ hi then 1 else 0) := by
  unfold f_X9_in
  by_cases h1 : lg_cmp x lo < 0
  · rw [if_pos h1, if_neg]
    intro q
    have a := Int64.lt_iff_toInt_lt.mp (lgc1.mp h1)
    have b := Int64.le_iff_toInt_le.mp q.1
    omega
  · rw [if_neg h1]
    by_cases h2 : 0 < lg_cmp x hi
    · rw [if_pos h2, if_neg]
      intro q
      have a := Int64.lt_iff_toInt_lt.mp (lgc2.mp h2)
      have b := Int64.le_iff_toInt_le.mp q.2
      omega
    · rw [if_neg h2, if_pos]
      refine ⟨Int64.le_iff_toInt_le.mpr ?_, Int64.le_iff_toInt_le.mpr ?_⟩
      · exact Int.not_lt.mp (fun q => h1 (lgc1.mpr (Int64.lt_iff_toInt_lt.mpr q)))
      · exact Int.not_lt.mp (fun q => h2 (lgc2.mpr (Int64.lt_iff_toInt_lt.mpr q)))
theorem p_in32 (x lo hi : Int32) : f_X9_in (Int32.toInt64 x) (Int32.toInt64 lo) (Int32.toInt64 hi) = some (if lo ≤ x ∧ x ≤ hi then 1 else 0) := by
  rw [p_in]
  simp only [Int32.toInt64_le]
theorem p_in0 (x hi : Int32) : f_X9_in (Int32.toInt64 x) 0 (Int32.toInt64 hi) = some (if 0 ≤ x ∧ x ≤ hi then 1 else 0) := p_in32 x 0 hi
theorem bz0 {α : Type} (k : Option α) : bz_ 0 k = k := rfl
theorem bz1 {α : Type} (k : Option α) : bz_ 1 k = k := rfl
theorem nI_toI {n : Nat} (h : n < 2 ^ 31) : (nI n).toInt = n := nI_toInt h
theorem p_fam {n : Nat} (hn : n ≤ 7) {told : Nat → Int32} (h0 : told 0 = nI n) (x : Int32) : (∃ k, k < n ∧ x = nI k ∧ f_X8_isFamily (nI n) x = some 1 ∧ f_X9_isFamily told x = some 1) ∨ ((¬ ∃ k, k < n ∧ x = nI k) ∧ f_X8_isFamily (nI n) x = some 0 ∧ f_X9_isFamily told x = some 0) := by
  have hm : (nI n - 1).toInt = (n : Int) - 1 := pk_sub_toInt (a := n) (b := 1) (by omega) (by omega)
  have h9 : f_X9_isFamily told x = some (if 0 ≤ x ∧ x ≤ nI n - 1 then 1 else 0) := by
    unfold f_X9_isFamily
    rw [h0, p_in0, bs]
    split <;> rfl
  have h8 : f_X8_isFamily (nI n) x = some (if x < 0 then 0 else if nI n ≤ x then 0 else 1) := by
    unfold f_X8_isFamily
    split
    · rfl
    · split <;> rfl
  have e0 : (0 : Int32).toInt = 0 := rfl
  have en : (nI n).toInt = n := nI_toI (by omega)
  by_cases hx : 0 ≤ x.toInt ∧ x.toInt < n
  · left
    obtain ⟨j, hj, rfl⟩ := nI_of (x := x) (fun q => by have := Int32.lt_iff_toInt_lt.mp q; omega)
    have ej : (nI j).toInt = j := nI_toI hj
    refine ⟨j, by omega, rfl, ?_, ?_⟩
    · rw [h8, if_neg (nI_pos hj), if_neg (fun q => by have := Int32.le_iff_toInt_le.mp q; omega)]
    · rw [h9, if_pos ⟨Int32.le_iff_toInt_le.mpr (by omega), Int32.le_iff_toInt_le.mpr (by omega)⟩]
  · right
    refine ⟨?_, ?_, ?_⟩
    · rintro ⟨k, hk, rfl⟩
      have := nI_toI (n := k) (by omega)
      omega
    · rw [h8]
      by_cases h1 : x < 0
      · rw [if_pos h1]
      · have h1' : ¬ x.toInt < 0 := fun q => h1 (Int32.lt_iff_toInt_lt.mpr (by omega))
        rw [if_neg h1, if_pos (Int32.le_iff_toInt_le.mpr (by omega))]
    · rw [h9, if_neg]
      rintro ⟨q1, q2⟩
      have a1 := Int32.le_iff_toInt_le.mp q1
      have a2 := Int32.le_iff_toInt_le.mp q2
      omega
theorem p_all : ∀ n, n ≤ 7 → f_X5_all (nI n) = some (nI (2 ^ n - 1)) ∧ ((1 : Int32) <<< (nI n &&& 31)) = nI (2 ^ n) ∧ ((1 : Int32) <<< (nI n &&& 31)) - 1 = nI (2 ^ n - 1) := by decide +kernel
theorem and_not {x : Int32} {n : Nat} (hn : n ≤ 7) : (x &&& (nI (2 ^ n - 1) ^^^ (-1))) = 0 ↔ ∃ s, s < 2 ^ n ∧ x = nI s := by
  have hp : 2 ^ n ≤ 2 ^ 7 := Nat.pow_le_pow_right (by decide) hn
  have hm : (nI (2 ^ n - 1)).toBitVec.toNat = 2 ^ n - 1 := pk_tn (by omega)
  constructor
  · intro h
    refine ⟨x.toBitVec.toNat % 2 ^ n, Nat.mod_lt _ (Nat.pos_of_ne_zero (by simp)), ?_⟩
    rw [← pk_and x n hm]
    apply Int32.toBitVec_inj.mp
    have h2 := congrArg Int32.toBitVec h
    apply BitVec.eq_of_getLsbD_eq
    intro i hi
    have h3 := congrArg (fun v => v.getLsbD i) h2
    simp only [Int32.toBitVec_and, Int32.toBitVec_xor, BitVec.getLsbD_and, BitVec.getLsbD_xor] at h3 ⊢
    have h4 : (-1 : Int32).toBitVec.getLsbD i = true := by
      have : (-1 : Int32).toBitVec = BitVec.allOnes 32 := by decide
      rw [this, BitVec.getLsbD_allOnes]
      simpa using hi
    have h5 : (0 : Int32).toBitVec.getLsbD i = false := by
      have : (0 : Int32).toBitVec = 0#32 := by decide
      rw [this]
      simp
    rw [h4, h5] at h3
    cases hx : x.toBitVec.getLsbD i <;> cases hy : (nI (2 ^ n - 1)).toBitVec.getLsbD i <;> simp_all
  · rintro ⟨s, hs, rfl⟩
    have key : ∀ n, n ≤ 7 → ∀ s, s < 2 ^ n → (nI s &&& (nI (2 ^ n - 1) ^^^ (-1))) = 0 := by decide +kernel
    exact key n hn s hs
theorem p_set {n : Nat} (hn : n ≤ 7) {told : Nat → Int32} (h0 : told 0 = nI n) (x : Int32) : (∃ s, s < 2 ^ n ∧ x = nI s ∧ f_X8_isSet (nI n) x = some 1 ∧ f_X9_areFamilies told x = some 1) ∨ (f_X8_isSet (nI n) x = some 0 ∧ f_X9_areFamilies told x = some 0) := by
  have hp : 2 ^ n ≤ 2 ^ 7 := Nat.pow_le_pow_right (by decide) hn
  have hp1 : 0 < 2 ^ n := Nat.pos_of_ne_zero (by simp)
  have h8 : f_X8_isSet (nI n) x = some (if (x &&& (nI (2 ^ n - 1) ^^^ (-1))) = 0 then 1 else 0) := by
    unfold f_X8_isSet
    rw [(p_all n hn).1, bs]
    unfold f_X8_isWithin
    split <;> rfl
  have h9 : f_X9_areFamilies told x = some (if 0 ≤ x ∧ x ≤ nI (2 ^ n - 1) then 1 else 0) := by
    unfold f_X9_areFamilies
    rw [h0, (p_all n hn).2.2, p_in0, bs]
    split <;> rfl
  by_cases h : ∃ s, s < 2 ^ n ∧ x = nI s
  · left
    obtain ⟨s, hs, rfl⟩ := h
    refine ⟨s, hs, rfl, ?_, ?_⟩
    · rw [h8, if_pos ((and_not hn).mpr ⟨s, hs, rfl⟩)]
    · rw [h9, if_pos ⟨nI_pos' (by omega), nI_le (by omega) (by omega)⟩]
  · right
    refine ⟨?_, ?_⟩
    · rw [h8, if_neg (fun q => h ((and_not hn).mp q))]
    · rw [h9, if_neg]
      rintro ⟨q1, q2⟩
      obtain ⟨j, hj, rfl⟩ := nI_of (x := x) (fun q => by have a := Int32.lt_iff_toInt_lt.mp q; have b := Int32.le_iff_toInt_le.mp q1; omega)
      have := (nI_leI hj (by omega)).mp q2
      exact h ⟨j, by omega, rfl⟩
theorem p_night7 : ∀ d, d < 1024 → f_X7_isNight (nI d) = some (b2 (d % 2 == 1)) := by decide +kernel
theorem p_night9 {st : Nat → Int32} {d : Nat} (hd : d < 1024) (h : st 14 = nI d) : f_X9_isNight st = some (b2 (d % 2 == 1)) := by
  unfold f_X9_isNight
  rw [h]
  have key : ∀ d, d < 1024 → (if (nI d - nI d / 2 * 2) = 1 then some 1 else some 0) = some (b2 (d % 2 == 1)) := by decide +kernel
  exact key d hd
