theorem gcd_step (x y : Nat) : Nat.gcd y (x % y) = Nat.gcd x y := by
  rw [Nat.gcd_comm y (x % y), ← Nat.gcd_rec, Nat.gcd_comm]
theorem half_mod {x y : Nat} (hy : 0 < y) (hr : 0 < x % y) : 2 * (y % (x % y)) < y := by
  have h1 : x % y < y := Nat.mod_lt _ hy
  have h2 : y % (x % y) < x % y := Nat.mod_lt _ hr
  have h3 : y % (x % y) ≤ y - x % y := by
    rw [Nat.mod_eq_sub_mod (by omega : y ≥ x % y)]
    exact Nat.mod_le _ _
  omega
theorem p_cd_one {x y st F : Nat} (hx : x < 2 ^ 31) (hy : 0 < y) (hy2 : y < 2 ^ 31) (hs : st < 64) : f_X8_commonDivisor_b7 (F + 1) (nI x) (nI y) (nI st) = f_X8_commonDivisor_b7 F (nI y) (nI (x % y)) (nI (st + 1)) := by
  show f_X8_commonDivisor_s7 (f_X8_commonDivisor_b7 F) (nI x) (nI y) (nI st) = _
  unfold f_X8_commonDivisor_s7
  rw [if_neg (show ¬ (64 : Int32) ≤ nI st from nI_ge (a := st) (b := 64) hs (by omega)), if_neg (nI_ne0 hy hy2)]
  unfold nz_
  rw [if_neg (nI_ne0 hy hy2), pk_rem hx hy hy2, nI_1]
theorem p_cd_end {x st F : Nat} (hs : st ≤ 64) : f_X8_commonDivisor_b7 (F + 1) (nI x) (nI 0) (nI st) = some (nI x) := by
  show f_X8_commonDivisor_s7 (f_X8_commonDivisor_b7 F) (nI x) (nI 0) (nI st) = _
  unfold f_X8_commonDivisor_s7
  by_cases h : (64 : Int32) ≤ nI st
  · rw [if_pos h]
  · rw [if_neg h, if_pos nI_0]
theorem p_cd : ∀ (k x y st F : Nat), x < 2 ^ 31 → y < 2 ^ k → k ≤ 25 → st + 2 * k ≤ 63 → 2 * k + 1 < F → f_X8_commonDivisor_b7 F (nI x) (nI y) (nI st) = some (nI (Nat.gcd x y)) := by
  intro k
  induction k with
  | zero =>
    intro x y st F hx hy hk hs hF
    obtain ⟨F, rfl⟩ : ∃ F', F = F' + 1 := ⟨F - 1, by omega⟩
    obtain rfl : y = 0 := by simpa using hy
    rw [p_cd_end (by omega), Nat.gcd_zero_right]
  | succ k ih =>
    intro x y st F hx hy hk hs hF
    have hp : 2 ^ (k + 1) ≤ 2 ^ 25 := Nat.pow_le_pow_right (by decide) hk
    obtain ⟨F, rfl⟩ : ∃ F', F = F' + 2 := ⟨F - 2, by omega⟩
    by_cases h0 : y = 0
    · subst h0
      rw [p_cd_end (by omega), Nat.gcd_zero_right]
    · have hm : x % y < y := Nat.mod_lt _ (by omega)
      rw [show F + 2 = (F + 1) + 1 from rfl, p_cd_one hx (by omega) (by omega) (by omega)]
      by_cases h1 : x % y = 0
      · rw [h1, p_cd_end (by omega), ← gcd_step, h1, Nat.gcd_zero_right]
      · rw [p_cd_one (by omega) (by omega) (by omega) (by omega), ih _ _ _ _ (by omega) (by
          have := half_mod (x := x) (y := y) (by omega) (by omega)
          rw [Nat.pow_succ] at hy
          omega) (by omega) (by omega) (by omega), gcd_step, gcd_step]
theorem p_commonDivisor {x y : Nat} (hx : x < 2 ^ 31) (hy : y < 2 ^ 20) : f_X8_commonDivisor (nI x) (nI y) = some (nI (Nat.gcd x y)) := p_cd 20 x y 0 5000 hx hy (by omega) (by omega) (by omega)
theorem p_cm_one {x y F : Nat} (hx : x < 2 ^ 31) (hy : 0 < y) (hy2 : y < 2 ^ 31) : f_X9_common_b4 (F + 1) (nI x) (nI y) = f_X9_common_b4 F (nI y) (nI (x % y)) := by
  show f_X9_common_s4 (f_X9_common_b4 F) (nI x) (nI y) = _
  unfold f_X9_common_s4
  rw [if_neg (nI_ne0 hy hy2)]
  unfold nz_
  rw [if_neg (nI_ne0 hy hy2), pk_rem hx hy hy2]
theorem p_cm_end {x F : Nat} : f_X9_common_b4 (F + 1) (nI x) (nI 0) = some (nI x) := by
  show f_X9_common_s4 (f_X9_common_b4 F) (nI x) (nI 0) = _
  unfold f_X9_common_s4
  rw [if_pos nI_0]
theorem p_cm : ∀ (k x y F : Nat), x < 2 ^ 31 → y < 2 ^ k → k ≤ 25 → 2 * k + 1 < F → f_X9_common_b4 F (nI x) (nI y) = some (nI (Nat.gcd x y)) := by
  intro k
  induction k with
  | zero =>
    intro x y F hx hy hk hF
    obtain ⟨F, rfl⟩ : ∃ F', F = F' + 1 := ⟨F - 1, by omega⟩
    obtain rfl : y = 0 := by simpa using hy
    rw [p_cm_end, Nat.gcd_zero_right]
  | succ k ih =>
    intro x y F hx hy hk hF
    have hp : 2 ^ (k + 1) ≤ 2 ^ 25 := Nat.pow_le_pow_right (by decide) hk
    obtain ⟨F, rfl⟩ : ∃ F', F = F' + 2 := ⟨F - 2, by omega⟩
    by_cases h0 : y = 0
    · subst h0
      rw [p_cm_end, Nat.gcd_zero_right]
    · have hm : x % y < y := Nat.mod_lt _ (by omega)
      rw [show F + 2 = (F + 1) + 1 from rfl, p_cm_one hx (by omega) (by omega)]
      by_cases h1 : x % y = 0
      · rw [h1, p_cm_end, ← gcd_step, h1, Nat.gcd_zero_right]
      · rw [p_cm_one (by omega) (by omega) (by omega), ih _ _ _ (by omega) (by
          have := half_mod (x := x) (y := y) (by omega) (by omega)
          rw [Nat.pow_succ] at hy
          omega) (by omega) (by omega), gcd_step, gcd_step]
theorem p_common {x y : Nat} (hx : x < 2 ^ 31) (hy : y < 2 ^ 20) : f_X9_common (nI x) (nI y) = some (nI (Nat.gcd x y)) := p_cm 20 x y 5000 hx hy (by omega) (by omega)
theorem p_part {x y : Nat} (hx : x < 2 ^ 31) (hy : 0 < y) (hy2 : y < 2 ^ 20) (p : Int32) : ∃ r, f_X8_partOf (nI x) (nI y) p = some r ∧ ((f_X9_common (nI x) (nI y)).bind fun g => if p = 0 then nz_ g (some (nI x / g)) else nz_ g (some (nI y / g))) = some r := by
  have hg : 0 < Nat.gcd x y := Nat.gcd_pos_of_pos_right _ hy
  have hg2 : Nat.gcd x y ≤ y := Nat.gcd_le_right _ hy
  have hne : ¬ nI (Nat.gcd x y) = 0 := nI_ne0 hg (by omega)
  unfold f_X8_partOf f_X8_partOf_b21 nz_
  rw [p_commonDivisor hx hy2, p_common hx hy2, bs, bs, if_neg hne, if_neg hne, if_neg hne]
  by_cases h : p = 0
  · simp only [if_pos h]; exact ⟨_, rfl, rfl⟩
  · simp only [if_neg h]; exact ⟨_, rfl, rfl⟩
def facN : Nat → Nat
  | 0 => 1
  | k + 1 => (k + 1) * facN k
theorem p_fac8 : ∀ k, k ≤ 7 → f_X8_factorial (nI k) = some (nI (facN k)) := by decide +kernel
theorem p_fac9 : ∀ k, k ≤ 7 → f_X9_factorial (nI k) = some (nI (facN k)) := by decide +kernel
theorem fac_b : ∀ k, k ≤ 6 → facN k ≤ 720 := by decide +kernel
theorem fac_c : ∀ k, k ≤ 7 → 0 < facN k ∧ facN k ≤ 5040 := by decide +kernel
theorem pcn_mono : ∀ a, a < 128 → ∀ b, b < 128 → a &&& b = a → pcn a ≤ pcn b := by decide +kernel
theorem pcn_one : ∀ s, s < 128 → ∀ f, f < 7 → s.testBit f = true → pcn s = pcn (s - 2 ^ f) + 1 := by decide +kernel
theorem pcn_le : ∀ s, s < 128 → pcn s ≤ 7 := by decide +kernel
theorem aset_oset {n f : Nat} (hn : n ≤ 7) {h : Nat → Nat} (hf : f < n) (hz : ¬ h f = 0) : oset n h f = aset n h - 2 ^ f := by
  have h2 : 2 ^ f < 2 ^ n := Nat.pow_lt_pow_right (by decide) hf
  have e : aset n h = oset n h f ||| 2 ^ f := by
    apply setOf_ext (n := n) (setOf_lt _ n) (Nat.or_lt_two_pow (setOf_lt _ n) h2)
    intro k hk
    rw [Nat.testBit_or, setOf_bit, setOf_bit, Nat.testBit_two_pow]
    by_cases q : k = f
    · subst q; simp [hk, hz]
    · have q' : ¬ f = k := fun z => q z.symm
      have q2 : (k == f) = false := by simp [q]
      simp [q', q2]
  have hd : (oset n h f).testBit f = false := by rw [setOf_bit]; simp
  have key : ∀ a, a < 128 → ∀ f, f < 7 → a.testBit f = false → a ||| 2 ^ f = a + 2 ^ f := by decide +kernel
  have hs := key (oset n h f) (setOf_lt7 _ hn) f (by omega) hd
  omega
def lotN (P : Nat → Bool) (mo : Nat) : Nat → Nat
  | 0 => 0
  | k + 1 => lotN P mo k + (if P k then facN (pcn k) * facN (mo - pcn k) else 0)
theorem lotN_le {P : Nat → Bool} {mo : Nat} (hmo : mo ≤ 6) (hP : ∀ k, P k = true → pcn k ≤ mo) : ∀ k, lotN P mo k ≤ k * 518400 := by
  intro k
  induction k with
  | zero => exact Nat.le_refl _
  | succ k ih =>
    rw [lotN]
    split
    · rename_i hp
      have := hP k hp
      have a := fac_b (pcn k) (by omega)
      have b := fac_b (mo - pcn k) (by omega)
      have : facN (pcn k) * facN (mo - pcn k) ≤ 720 * 720 := Nat.mul_le_mul a b
      rw [Nat.succ_mul]
      exact Nat.add_le_add ih this
    · rw [Nat.add_zero, Nat.succ_mul]
      exact Nat.le_trans ih (Nat.le_add_right _ _)
theorem p_lot8_loop {n q d f mo : Nat} (hn : n ≤ 7) (hf : f < n) (hd : d < 1024) (kinds : Nat → Int32) (h : Nat → Nat) (z p : Int32) (hmo : mo = pcn (oset n h f)) (hmo6 : mo ≤ 6) : ∀ (m k F : Nat), k + m = 2 ^ n → m < F → f_X8_lot_b34 (nI n) (nI q) (nI d) z kinds F (nI f) p (nI (oset n h f)) (nI mo) (nI (lotN (swB kinds q n d h f) mo k)) (nI k) = f_X8_partOf (nI (lotN (swB kinds q n d h f) mo (2 ^ n))) (nI (facN (mo + 1))) p := by
  have hp : 2 ^ n ≤ 2 ^ 7 := Nat.pow_le_pow_right (by decide) hn
  have hlt : oset n h f < 2 ^ n := setOf_lt _ n
  intro m
  induction m with
  | zero =>
    intro k F hk hF
    obtain ⟨F, rfl⟩ : ∃ F', F = F' + 1 := ⟨F - 1, by omega⟩
    obtain rfl : k = 2 ^ n := by omega
    show f_X8_lot_s34 (nI n) (nI q) (nI d) z kinds (f_X8_lot_b34 (nI n) (nI q) (nI d) z kinds F) _ _ _ _ _ _ = _
    unfold f_X8_lot_s34
    have hp1 : 0 < 2 ^ n := Nat.pos_of_ne_zero (by simp)
    rw [(p_all n hn).1, bs, if_pos (nI_lt (by omega) (by omega)), nI_1, p_fac8 _ (by omega), bs]
    cases f_X8_partOf (nI (lotN (swB kinds q n d h f) mo (2 ^ n))) (nI (facN (mo + 1))) p <;> rfl
  | succ m ih =>
    intro k F hk hF
    obtain ⟨F, rfl⟩ : ∃ F', F = F' + 1 := ⟨F - 1, by omega⟩
    show f_X8_lot_s34 (nI n) (nI q) (nI d) z kinds (f_X8_lot_b34 (nI n) (nI q) (nI d) z kinds F) _ _ _ _ _ _ = _
    unfold f_X8_lot_s34 f_X8_lot_b92
    have h2 := ih (k + 1) F (by omega) (by omega)
    rw [lotN] at h2
    rw [(p_all n hn).1, bs, if_neg (nI_nlt (by omega) (by omega)), p_within k (by omega) _ (by omega), bs, p_swing8 hn hf hd (by omega), bs]
    simp only [nI_1]
    by_cases h1 : k &&& oset n h f = k
    · have hpc : pcn k ≤ mo := by rw [hmo]; exact pcn_mono k (by omega) _ (by omega) h1
      rw [if_pos h1, if_neg (by decide), p_bitCount k (by omega), bs, p_fac8 _ (by omega), bs, pk_sub hpc, p_fac8 _ (by omega), bs, pk_mul, nI_add]
      have e : swB kinds q n d h f k = (!decide (nI q ≤ wSet kinds n d k) && !decide (wSet kinds n d k + wtI (kinds f) (d % 2 == 1) < nI q)) := by unfold swB; simp [h1]
      rw [← e]
      cases hb : swB kinds q n d h f k with
      | true => rw [hb] at h2; exact h2
      | false => rw [hb] at h2; exact h2
    · have e : swB kinds q n d h f k = false := by unfold swB; simp [h1]
      rw [if_neg h1, if_pos rfl]
      rw [e] at h2
      exact h2
theorem p_lot9_loop {n q d f mo : Nat} (hn : n ≤ 7) (hf : f < n) (hd : d < 1024) {told st kinds : Nat → Int32} {h : Nat → Nat} (t0 : told 0 = nI n) (t1 : told 1 = nI q) (s14 : st 14 = nI d) (tk : ∀ f, f < 7 → told (3 + f) = kinds f) (hst : ∀ k, k < 7 → st k = nI (h k)) (hb : ∀ k, h k ≤ 20) (p : Int32) (hmo : mo = pcn (oset n h f)) (hmo6 : mo ≤ 6) : ∀ (m k F : Nat), k + m = 2 ^ n → m < F → f_X9_lot_b49 told st F (nI f) p (nI (mo + 1)) (nI (lotN (swB kinds q n d h f) mo k)) (nI k) = ((f_X9_common (nI (lotN (swB kinds q n d h f) mo (2 ^ n))) (nI (facN (mo + 1)))).bind fun g => if p = 0 then nz_ g (some (nI (lotN (swB kinds q n d h f) mo (2 ^ n)) / g)) else nz_ g (some (nI (facN (mo + 1)) / g))) := by
  have hp : 2 ^ n ≤ 2 ^ 7 := Nat.pow_le_pow_right (by decide) hn
  intro m
  induction m with
  | zero =>
    intro k F hk hF
    obtain ⟨F, rfl⟩ : ∃ F', F = F' + 1 := ⟨F - 1, by omega⟩
    obtain rfl : k = 2 ^ n := by omega
    show f_X9_lot_s49 told st (f_X9_lot_b49 told st F) _ _ _ _ _ = _
    unfold f_X9_lot_s49
    rw [t0, (p_all n hn).2.1, if_pos (nI_le (Nat.le_refl _) (by omega)), p_fac9 _ (by omega), bs]
  | succ m ih =>
    intro k F hk hF
    obtain ⟨F, rfl⟩ : ∃ F', F = F' + 1 := ⟨F - 1, by omega⟩
    show f_X9_lot_s49 told st (f_X9_lot_b49 told st F) _ _ _ _ _ = _
    unfold f_X9_lot_s49 f_X9_lot_b99
    have h2 := ih (k + 1) F (by omega) (by omega)
    rw [lotN] at h2
    rw [t0, (p_all n hn).2.1, if_neg (nI_ge (by omega) (by omega)), p_swing9 hn hf hd (by omega) t0 t1 s14 tk hst hb, bs]
    simp only [nI_1, Int32.add_zero]
    cases hsw : swB kinds q n d h f k with
    | true =>
      have h1 : k &&& oset n h f = k := by
        unfold swB at hsw
        simp at hsw
        exact hsw.1
      have hpc : pcn k ≤ mo := by rw [hmo]; exact pcn_mono k (by omega) _ (setOf_lt7 _ hn) h1
      rw [p_ones k (by omega), bs, p_fac9 _ (by omega), bs, bs, nI_pred, pk_sub hpc, p_fac9 _ (by omega), bs, pk_mul, nI_add]
      rw [hsw] at h2
      exact h2
    | false => rw [hsw] at h2; exact h2
theorem q_lot {n q c d : Nat} {wn cd h : Nat → Nat} {lt lk : Nat → Nat → Bool} {fam quota cc date frozen : Int32} {kinds warmths prices tfav colds told healths fav st : Nat → Int32} (T : TOR n q c wn cd lt fam quota cc kinds warmths prices tfav colds told) (Wi : WIR n d h lk date frozen healths fav st) (x p : Int32) : ∃ r, f_X8_lot fam quota date frozen kinds x p = some r ∧ f_X9_lot told st x p = some r := by
  obtain ⟨hn, hq, hc, ⟨rfl, rfl, rfl⟩, ⟨t0, t1, t2⟩, tk, tw, tp, tc, hw, hkd, hcs, hcd, hF, hL⟩ := T
  obtain ⟨hd, rfl, s14, rfl, hh, hs, hb, hz, wF, wL, hlk⟩ := Wi
  have hp : 2 ^ n ≤ 2 ^ 7 := Nat.pow_le_pow_right (by decide) hn
  have hin : f_X9_in (Int32.toInt64 p) 0 1 = some (if 0 ≤ p ∧ p ≤ 1 then 1 else 0) := p_in32 p 0 1
  have e0 : (0 : Int32).toInt = 0 := rfl
  rcases p_fam hn t0 x with ⟨f, hf, rfl, e8, e9⟩ | ⟨-, e8, e9⟩
  · unfold f_X8_lot f_X9_lot
    rw [e9, bs, if_neg (show ¬ (1 : Int32) = 0 by decide), hin, bs]
    by_cases hpp : 0 ≤ p ∧ p ≤ 1
    · have h1 : ¬ p < 0 := fun q => by have a := Int32.lt_iff_toInt_lt.mp q; have b := Int32.le_iff_toInt_le.mp hpp.1; omega
      rw [if_pos hpp, if_neg (show ¬ (1 : Int32) = 0 by decide), p_refusal hn hf h h1 hpp.2 e8, bs, p_isFrozen9 (by omega) (hs f (by omega)) (hb f), bs]
      by_cases hz' : h f = 0
      · rw [if_pos hz', if_neg (by decide), if_pos hz', if_neg (by decide)]
        exact ⟨_, rfl, rfl⟩
      · have hol : oset n h f < 128 := setOf_lt7 _ hn
        have hal : aset n h < 128 := setOf_lt7 _ hn
        have hbit : (aset n h).testBit f = true := by rw [setOf_bit]; simp [hf, hz']
        have hpc := pcn_one (aset n h) hal f (by omega) hbit
        rw [← aset_oset hn hf hz'] at hpc
        have hle := pcn_le (aset n h) hal
        have hmo6 : pcn (oset n h f) ≤ 6 := by omega
        rw [if_neg hz', if_pos rfl, if_neg hz', if_pos rfl, p_others hn hf h, bs, p_bitCount _ hol, bs, p_alive hn t0 hs hb, bs, p_ones _ hal, bs, hpc]
        have a := p_lot8_loop (q := q) hn hf (show d < 1024 by omega) kinds h (nI (zset n h)) p rfl hmo6 (2 ^ n) 0 5000 (by omega) (by omega)
        have b := p_lot9_loop (q := q) hn hf (show d < 1024 by omega) t0 t1 s14 tk hs hb p rfl hmo6 (2 ^ n) 0 5000 (by omega) (by omega)
        have hbd : lotN (swB kinds q n d h f) (pcn (oset n h f)) (2 ^ n) ≤ 2 ^ n * 518400 := by
          have hgen : ∀ k, lotN (fun k => decide (k < 128) && swB kinds q n d h f k) (pcn (oset n h f)) k ≤ k * 518400 := lotN_le hmo6 (fun k hk => by
            simp at hk
            refine pcn_mono k hk.1 _ hol ?_
            have := hk.2
            unfold swB at this
            simp at this
            exact this.1)
          have hcon : ∀ k, k ≤ 128 → lotN (swB kinds q n d h f) (pcn (oset n h f)) k = lotN (fun k => decide (k < 128) && swB kinds q n d h f k) (pcn (oset n h f)) k := by
            intro k
            induction k with
            | zero => intro _; rfl
            | succ k ih =>
              intro hk
              have hk2 : k < 128 := by omega
              rw [lotN, lotN, ih (by omega)]
              simp [hk2]
          rw [hcon _ (by omega)]
          exact hgen _
        have hbd2 : 2 ^ n * 518400 ≤ 2 ^ 7 * 518400 := Nat.mul_le_mul_right _ hp
        obtain ⟨f1, f2⟩ := fac_c (pcn (oset n h f) + 1) (by omega)
        obtain ⟨r, r1, r2⟩ := p_part (x := lotN (swB kinds q n d h f) (pcn (oset n h f)) (2 ^ n)) (y := facN (pcn (oset n h f) + 1)) (Nat.lt_of_le_of_lt (Nat.le_trans hbd hbd2) (by decide)) f1 (by omega) p
        exact ⟨r, a.trans r1, b.trans r2⟩
    · rw [if_neg hpp, if_pos rfl]
      refine ⟨-3, ?_, rfl⟩
      unfold f_X8_refusalFor
      rw [e8, bs, if_neg (show ¬ (1 : Int32) = 0 by decide)]
      by_cases h1 : p < 0
      · rw [if_pos h1]; rfl
      · rw [if_neg h1, if_neg]
        · rfl
        · intro h2
          refine hpp ⟨Int32.le_iff_toInt_le.mpr ?_, h2⟩
          have : ¬ p.toInt < (0 : Int32).toInt := fun q => h1 (Int32.lt_iff_toInt_lt.mpr q)
          omega
  · refine ⟨-2, ?_, ?_⟩
    · unfold f_X8_lot f_X8_refusalFor
      rw [e8]; rfl
    · unfold f_X9_lot
      rw [e9]; rfl
