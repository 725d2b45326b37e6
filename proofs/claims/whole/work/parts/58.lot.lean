/-! Euclid on both sides; lot -/
theorem gcd_step (x y : Nat) : Nat.gcd y (x % y) = Nat.gcd x y := by
  rw [Nat.gcd_comm y (x % y), ← Nat.gcd_rec, Nat.gcd_comm]
theorem half_mod {x y : Nat} (hy : 0 < y) (hr : 0 < x % y) : 2 * (y % (x % y)) < y := by
  have h1 : x % y < y := Nat.mod_lt _ hy
  have h2 : y % (x % y) < x % y := Nat.mod_lt _ hr
  have h3 : y % (x % y) ≤ y - x % y := by
    have : y = (y - x % y) + x % y := by omega
    rw [this, Nat.add_mod_right]
    have := Nat.mod_le (y - x % y) (x % y)
    omega
  omega
theorem p_cd_one {x y st F : Nat} (hx : x < 2 ^ 31) (hy : 0 < y) (hy2 : y < 2 ^ 31) (hs : st < 64) : f_X8_commonDivisor_b7 (F + 1) (nI x) (nI y) (nI st) = f_X8_commonDivisor_b7 F (nI y) (nI (x % y)) (nI (st + 1)) := by
  show f_X8_commonDivisor_s7 (f_X8_commonDivisor_b7 F) (nI x) (nI y) (nI st) = _
  unfold f_X8_commonDivisor_s7
  rw [if_neg (show ¬ (64 : Int32) ≤ nI st from nI_ge (a := st) (b := 64) hs (by omega)), if_neg (nI_ne0 hy hy2)]
  unfold nz_
  rw [if_neg (nI_ne0 hy hy2), pk_rem hx hy hy2, nI_1]
theorem p_cd_end {x st F : Nat} (hs : st ≤ 64) : f_X8_commonDivisor_b7 (F + 1) (nI x) (nI 0) (nI st) = some (nI x) := by
  show f_X8_commonDivisor_s7 (f_X8_commonDivisor_b7 F) (nI x) (nI 0) (nI st) = _
  unfold f_X8_commonDivisor_s7
  by_cases h : (64 : Int32) ≤ nI st
  · rw [if_pos h]
  · rw [if_neg h, if_pos nI_0]
theorem p_cd : ∀ (k x y st F : Nat), x < 2 ^ 31 → y < 2 ^ k → k ≤ 25 → st + 2 * k ≤ 63 → 2 * k + 1 < F → f_X8_commonDivisor_b7 F (nI x) (nI y) (nI st) = some (nI (Nat.gcd x y)) := by
  intro k
  induction k with
  | zero =>
    intro x y st F hx hy hk hs hF
    obtain ⟨F, rfl⟩ : ∃ F', F = F' + 1 := ⟨F - 1, by omega⟩
    obtain rfl : y = 0 := by simpa using hy
    rw [p_cd_end (by omega), Nat.gcd_zero_right]
  | succ k ih =>
    intro x y st F hx hy hk hs hF
    have hp : 2 ^ (k + 1) ≤ 2 ^ 25 := Nat.pow_le_pow_right (by decide) hk
    obtain ⟨F, rfl⟩ : ∃ F', F = F' + 2 := ⟨F - 2, by omega⟩
    by_cases h0 : y = 0
    · subst h0
      rw [p_cd_end (by omega), Nat.gcd_zero_right]
    · have hm : x % y < y := Nat.mod_lt _ (by omega)
      rw [show F + 2 = (F + 1) + 1 from rfl, p_cd_one hx (by omega) (by omega) (by omega)]
      by_cases h1 : x % y = 0
      · rw [h1, p_cd_end (by omega), ← gcd_step, h1, Nat.gcd_zero_right]
      · rw [p_cd_one (by omega) (by omega) (by omega) (by omega), ih _ _ _ _ (by omega) (by
          have := half_mod (x := x) (y := y) (by omega) (by omega)
          rw [Nat.pow_succ] at hy
          omega) (by omega) (by omega) (by omega), gcd_step, gcd_step]
theorem p_commonDivisor {x y : Nat} (hx : x < 2 ^ 31) (hy : y < 2 ^ 20) : f_X8_commonDivisor (nI x) (nI y) = some (nI (Nat.gcd x y)) := p_cd 20 x y 0 5000 hx hy (by omega) (by omega) (by omega)
theorem p_cm_one {x y F : Nat} (hx : x < 2 ^ 31) (hy : 0 < y) (hy2 : y < 2 ^ 31) : f_X9_common_b4 (F + 1) (nI x) (nI y) = f_X9_common_b4 F (nI y) (nI (x % y)) := by
  show f_X9_common_s4 (f_X9_common_b4 F) (nI x) (nI y) = _
  unfold f_X9_common_s4
  rw [if_neg (nI_ne0 hy hy2)]
  unfold nz_
  rw [if_neg (nI_ne0 hy hy2), pk_rem hx hy hy2]
theorem p_cm_end {x F : Nat} : f_X9_common_b4 (F + 1) (nI x) (nI 0) = some (nI x) := by
  show f_X9_common_s4 (f_X9_common_b4 F) (nI x) (nI 0) = _
  unfold f_X9_common_s4
  rw [if_pos nI_0]
theorem p_cm : ∀ (k x y F : Nat), x < 2 ^ 31 → y < 2 ^ k → k ≤ 25 → 2 * k + 1 < F → f_X9_common_b4 F (nI x) (nI y) = some (nI (Nat.gcd x y)) := by
  intro k
  induction k with
  | zero =>
    intro x y F hx hy hk hF
    obtain ⟨F, rfl⟩ : ∃ F', F = F' + 1 := ⟨F - 1, by omega⟩
    obtain rfl : y = 0 := by simpa using hy
    rw [p_cm_end, Nat.gcd_zero_right]
  | succ k ih =>
    intro x y F hx hy hk hF
    have hp : 2 ^ (k + 1) ≤ 2 ^ 25 := Nat.pow_le_pow_right (by decide) hk
    obtain ⟨F, rfl⟩ : ∃ F', F = F' + 2 := ⟨F - 2, by omega⟩
    by_cases h0 : y = 0
    · subst h0
      rw [p_cm_end, Nat.gcd_zero_right]
    · have hm : x % y < y := Nat.mod_lt _ (by omega)
      rw [show F + 2 = (F + 1) + 1 from rfl, p_cm_one hx (by omega) (by omega)]
      by_cases h1 : x % y = 0
      · rw [h1, p_cm_end, ← gcd_step, h1, Nat.gcd_zero_right]
      · rw [p_cm_one (by omega) (by omega) (by omega), ih _ _ _ (by omega) (by
          have := half_mod (x := x) (y := y) (by omega) (by omega)
          rw [Nat.pow_succ] at hy
          omega) (by omega) (by omega), gcd_step, gcd_step]
theorem p_common {x y : Nat} (hx : x < 2 ^ 31) (hy : y < 2 ^ 20) : f_X9_common (nI x) (nI y) = some (nI (Nat.gcd x y)) := p_cm 20 x y 5000 hx hy (by omega) (by omega)
/-- a part in lowest terms, both ways -/
theorem p_part {x y : Nat} (hx : x < 2 ^ 31) (hy : 0 < y) (hy2 : y < 2 ^ 20) (p : Int32) : ∃ r, f_X8_partOf (nI x) (nI y) p = some r ∧ ((f_X9_common (nI x) (nI y)).bind fun g => if p = 0 then nz_ g (some (nI x / g)) else nz_ g (some (nI y / g))) = some r := by
  have hg : 0 < Nat.gcd x y := Nat.gcd_pos_of_pos_right _ hy
  have hg2 : Nat.gcd x y ≤ y := Nat.gcd_le_right _ hy
  have hne : ¬ nI (Nat.gcd x y) = 0 := nI_ne0 hg (by omega)
  unfold f_X8_partOf f_X8_partOf_b21 nz_
  rw [p_commonDivisor hx hy2, p_common hx hy2, bs, bs, if_neg hne, if_neg hne, if_neg hne]
  by_cases h : p = 0
  · rw [if_pos h, if_pos h]; exact ⟨_, rfl, rfl⟩
  · rw [if_neg h, if_neg h]; exact ⟨_, rfl, rfl⟩
def facN : Nat → Nat
  | 0 => 1
  | k + 1 => (k + 1) * facN k
theorem p_fac8 : ∀ k, k ≤ 7 → f_X8_factorial (nI k) = some (nI (facN k)) := by decide +kernel
theorem p_fac9 : ∀ k, k ≤ 7 → f_X9_factorial (nI k) = some (nI (facN k)) := by decide +kernel
theorem fac_b : ∀ k, k ≤ 6 → facN k ≤ 720 := by decide +kernel
theorem fac_c : ∀ k, k ≤ 7 → 0 < facN k ∧ facN k ≤ 5040 := by decide +kernel
theorem pcn_mono : ∀ a, a < 128 → ∀ b, b < 128 → a &&& b = a → pcn a ≤ pcn b := by decide +kernel
theorem pcn_one : ∀ s, s < 128 → ∀ f, f < 7 → s.testBit f = true → pcn s = pcn (s - 2 ^ f) + 1 := by decide +kernel
theorem pcn_le : ∀ s, s < 128 → pcn s ≤ 7 := by decide +kernel
theorem aset_oset {n f : Nat} {h : Nat → Nat} (hf : f < n) (hz : ¬ h f = 0) : oset n h f = aset n h - 2 ^ f := by
  have h2 : 2 ^ f < 2 ^ n := Nat.pow_lt_pow_right (by decide) hf
  have e : aset n h = oset n h f ||| 2 ^ f := by
    apply setOf_ext (n := n) (setOf_lt _ n) (Nat.or_lt_two_pow (setOf_lt _ n) h2)
    intro k hk
    rw [Nat.testBit_or, setOf_bit, setOf_bit, Nat.testBit_two_pow]
    by_cases q : k = f
    · subst q; simp [hk, hz]
    · have q' : ¬ f = k := fun z => q z.symm
      have q2 : (k == f) = false := by simp [q]
      simp [q', q2]
  have hd : oset n h f &&& 2 ^ f = 0 := by
    apply Nat.eq_of_testBit_eq
    intro k
    rw [Nat.testBit_and, setOf_bit, Nat.testBit_two_pow]
    by_cases q : f = k
    · subst q; simp
    · simp [q]
  have hs : oset n h f ||| 2 ^ f = oset n h f + 2 ^ f := by
    have key : ∀ (a b : Nat), a &&& b = 0 → a ||| b = a + b := fun a b hab => by
      have := Nat.and_add_or a b
      omega
    exact key _ _ hd
  omega
/-- the rows in which those ahead are such -/
def lotN (P : Nat → Bool) (mo : Nat) : Nat → Nat
  | 0 => 0
  | k + 1 => lotN P mo k + (if P k then facN (pcn k) * facN (mo - pcn k) else 0)
theorem lotN_le {P : Nat → Bool} {mo : Nat} (hmo : mo ≤ 6) (hP : ∀ k, P k = true → pcn k ≤ mo) : ∀ k, lotN P mo k ≤ k * 518400 := by
  intro k
  induction k with
  | zero => exact Nat.le_refl _
  | succ k ih =>
    rw [lotN]
    split
    · rename_i hp
      have := hP k hp
      have a := fac_b (pcn k) (by omega)
      have b := fac_b (mo - pcn k) (by omega)
      have : facN (pcn k) * facN (mo - pcn k) ≤ 720 * 720 := Nat.mul_le_mul a b
      omega
    · omega
