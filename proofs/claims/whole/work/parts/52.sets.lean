def setOf : Nat → (Nat → Bool) → Nat
  | 0, _ => 0
  | k + 1, P => setOf k P + (if P k then 2 ^ k else 0)
theorem setOf_lt (P : Nat → Bool) : ∀ n, setOf n P < 2 ^ n := by
  intro n
  induction n with
  | zero => simp [setOf]
  | succ n ih =>
    rw [setOf, Nat.pow_succ]
    split <;> omega
theorem setOf_lt7 (P : Nat → Bool) {n : Nat} (hn : n ≤ 7) : setOf n P < 128 := Nat.lt_of_lt_of_le (setOf_lt P n) (Nat.pow_le_pow_right (by decide) hn)
theorem setOf_bit (P : Nat → Bool) (k : Nat) : ∀ n, (setOf n P).testBit k = (decide (k < n) && P k) := by
  intro n
  induction n with
  | zero => simp [setOf]
  | succ n ih =>
    rw [setOf]
    have hlt := setOf_lt P n
    by_cases hp : P n = true
    · rw [if_pos hp, Nat.add_comm]
      by_cases hk : k = n
      · subst hk
        rw [Nat.testBit_two_pow_add_eq, ih]
        simp [hp]
      · rcases Nat.lt_or_gt_of_ne hk with h | h
        · rw [Nat.testBit_two_pow_add_gt h, ih]
          simp [h, Nat.lt_succ_of_lt h]
        · have h1 : 2 ^ n + setOf n P < 2 ^ k := by
            have : 2 ^ (n + 1) ≤ 2 ^ k := Nat.pow_le_pow_right (by decide) h
            rw [Nat.pow_succ] at this
            omega
          rw [Nat.testBit_lt_two_pow h1]
          simp
          intro q
          omega
    · rw [if_neg hp, Nat.add_zero, ih]
      by_cases hk : k = n
      · subst hk
        simp [hp]
      · have : (k < n + 1) ↔ k < n := by omega
        simp [this]
theorem setOf_congr {P Q : Nat → Bool} : ∀ {n : Nat}, (∀ k, k < n → P k = Q k) → setOf n P = setOf n Q := by
  intro n
  induction n with
  | zero => intro _; rfl
  | succ n ih =>
    intro h
    rw [setOf, setOf, ih (fun k hk => h k (by omega)), h n (by omega)]
theorem setOf_ext {a b : Nat} {n : Nat} (ha : a < 2 ^ n) (hb : b < 2 ^ n) (h : ∀ k, k < n → a.testBit k = b.testBit k) : a = b := by
  apply Nat.eq_of_testBit_eq
  intro k
  by_cases hk : k < n
  · exact h k hk
  · have hp : 2 ^ n ≤ 2 ^ k := Nat.pow_le_pow_right (by decide) (by omega)
    rw [Nat.testBit_lt_two_pow (Nat.lt_of_lt_of_le ha hp), Nat.testBit_lt_two_pow (Nat.lt_of_lt_of_le hb hp)]
theorem p_or1 : ∀ k, k < 8 → ∀ a, a < 2 ^ k → nI a ||| ((1 : Int32) <<< (nI k &&& 31)) = nI (a + 2 ^ k) := by decide +kernel
theorem p_or0 (x : Int32) : x ||| 0 = x := Int32.or_zero
theorem setOf_step1 {P : Nat → Bool} {k : Nat} (hk : k < 8) (h : P k = true) : nI (setOf k P) ||| ((1 : Int32) <<< (nI k &&& 31)) = nI (setOf (k + 1) P) := by
  rw [p_or1 k hk _ (setOf_lt P k), setOf, if_pos h]
theorem setOf_step0 {P : Nat → Bool} {k : Nat} (h : ¬ P k = true) : setOf (k + 1) P = setOf k P := by
  rw [setOf, if_neg h, Nat.add_zero]
abbrev zset (n : Nat) (h : Nat → Nat) : Nat := setOf n (fun k => h k == 0)
theorem p_isFrozen9 {st : Nat → Int32} {h : Nat → Nat} {k : Nat} (hk : k < 7) (hs : st k = nI (h k)) (hb : h k ≤ 20) : f_X9_isFrozen st (nI k) = some (if h k = 0 then 1 else 0) := by
  unfold f_X9_isFrozen
  rw [gd_nI (by omega) (by omega), cl (by omega), hs]
  by_cases h0 : h k = 0
  · rw [if_pos h0, h0, nI_0, if_pos rfl]
  · rw [if_neg h0, if_neg (nI_ne0 (by omega) (by omega))]
theorem p_frozen_loop {n : Nat} (hn : n ≤ 7) {told st : Nat → Int32} {h : Nat → Nat} (h0 : told 0 = nI n) (hs : ∀ k, k < 7 → st k = nI (h k)) (hb : ∀ k, h k ≤ 20) : ∀ (m k F : Nat), k + m = n → m < F → f_X9_frozen_b4 told st F (nI (setOf k (fun k => h k == 0))) (nI k) = some (nI (zset n h)) := by
  intro m
  induction m with
  | zero =>
    intro k F hk hF
    obtain ⟨F, rfl⟩ : ∃ F', F = F' + 1 := ⟨F - 1, by omega⟩
    obtain rfl : k = n := by omega
    show f_X9_frozen_s4 _ _ _ _ _ = _
    unfold f_X9_frozen_s4
    rw [h0, if_pos (nI_le (Nat.le_refl _) (by omega))]
  | succ m ih =>
    intro k F hk hF
    obtain ⟨F, rfl⟩ : ∃ F', F = F' + 1 := ⟨F - 1, by omega⟩
    show f_X9_frozen_s4 _ _ (f_X9_frozen_b4 told st F) _ _ = _
    unfold f_X9_frozen_s4 f_X9_frozen_b30
    have h2 := ih (k + 1) F (by omega) (by omega)
    rw [h0, if_neg (nI_ge (by omega) (by omega)), p_isFrozen9 (by omega) (hs k (by omega)) (hb k), bs, nI_1]
    by_cases hz : h k = 0
    · rw [if_pos hz, if_neg (by decide), setOf_step1 (by omega) (by simp [hz])]
      exact h2
    · rw [if_neg hz, if_pos rfl, p_or0]
      rw [setOf_step0 (by simp [hz])] at h2
      exact h2
theorem p_frozen {n : Nat} (hn : n ≤ 7) {told st : Nat → Int32} {h : Nat → Nat} (h0 : told 0 = nI n) (hs : ∀ k, k < 7 → st k = nI (h k)) (hb : ∀ k, h k ≤ 20) : f_X9_frozen told st = some (nI (zset n h)) := p_frozen_loop hn h0 hs hb n 0 5000 (by omega) (by omega)
abbrev aset (n : Nat) (h : Nat → Nat) : Nat := setOf n (fun k => !(h k == 0))
theorem p_compl : ∀ n, n ≤ 7 → ∀ z, z < 2 ^ n → nI (2 ^ n - 1) &&& (nI z ^^^ (-1)) = nI (2 ^ n - 1 - z) := by decide +kernel
theorem setOf_not (P : Nat → Bool) : ∀ n, 2 ^ n - 1 - setOf n P = setOf n (fun k => !P k) := by
  intro n
  induction n with
  | zero => rfl
  | succ n ih =>
    have := setOf_lt P n
    rw [setOf, setOf, ← ih, Nat.pow_succ]
    by_cases h : P n = true
    · simp [h]; omega
    · simp [h]; omega
theorem p_alive {n : Nat} (hn : n ≤ 7) {told st : Nat → Int32} {h : Nat → Nat} (h0 : told 0 = nI n) (hs : ∀ k, k < 7 → st k = nI (h k)) (hb : ∀ k, h k ≤ 20) : f_X9_alive told st = some (nI (aset n h)) := by
  unfold f_X9_alive
  rw [p_frozen hn h0 hs hb, bs, h0, (p_all n hn).2.2, p_compl n hn _ (setOf_lt _ n), setOf_not]
abbrev fset (n : Nat) (lk : Nat → Nat → Bool) (f : Nat) : Nat := setOf n (fun a => lk a f)
abbrev lset (n : Nat) (lk : Nat → Nat → Bool) (a : Nat) : Nat := setOf n (fun b => lk a b)
theorem p_fav_loop {n f : Nat} (hn : n ≤ 7) (hf : f < n) {told st : Nat → Int32} {lk : Nat → Nat → Bool} (h0 : told 0 = nI n) (hl : ∀ a, a < n → st (7 + a) = nI (lset n lk a)) : ∀ (m k F : Nat), k + m = n → m < F → f_X9_favouring_b4 told st F (nI f) (nI (setOf k (fun a => lk a f))) (nI k) = some (nI (fset n lk f)) := by
  intro m
  induction m with
  | zero =>
    intro k F hk hF
    obtain ⟨F, rfl⟩ : ∃ F', F = F' + 1 := ⟨F - 1, by omega⟩
    obtain rfl : k = n := by omega
    show f_X9_favouring_s4 _ _ _ _ _ _ = _
    unfold f_X9_favouring_s4
    rw [h0, if_pos (nI_le (Nat.le_refl _) (by omega))]
  | succ m ih =>
    intro k F hk hF
    obtain ⟨F, rfl⟩ : ∃ F', F = F' + 1 := ⟨F - 1, by omega⟩
    show f_X9_favouring_s4 _ _ (f_X9_favouring_b4 told st F) _ _ _ = _
    unfold f_X9_favouring_s4 f_X9_favouring_b38
    have h2 := ih (k + 1) F (by omega) (by omega)
    have hlt : lset n lk k < 128 := setOf_lt7 (fun b => lk k b) hn
    rw [h0, if_neg (nI_ge (by omega) (by omega)), l7, gd_nI (by omega) (by omega), cl (by omega), hl k (by omega), p_has _ (by omega) f (by omega), bs, nI_1]
    have hbit : (lset n lk k).testBit f = lk k f := by rw [setOf_bit]; simp [hf]
    rw [hbit]
    by_cases hz : lk k f = true
    · rw [if_pos hz, if_neg (by decide), setOf_step1 (P := fun a => lk a f) (by omega) hz]
      exact h2
    · rw [if_neg hz, if_pos rfl, p_or0]
      rw [setOf_step0 (P := fun a => lk a f) hz] at h2
      exact h2
theorem p_favouring {n f : Nat} (hn : n ≤ 7) (hf : f < n) {told st : Nat → Int32} {lk : Nat → Nat → Bool} (h0 : told 0 = nI n) (hl : ∀ a, a < n → st (7 + a) = nI (lset n lk a)) : f_X9_favouring told st (nI f) = some (nI (fset n lk f)) := p_fav_loop hn hf h0 hl n 0 5000 (by omega) (by omega)
abbrev dset (n : Nat) (h : Nat → Nat) (lk : Nat → Nat → Bool) (f : Nat) : Nat := setOf n (fun a => (lk a f || a == f) && !(h a == 0))
theorem p_bits2 : ∀ k, k < 8 → ((1 : Int32) <<< (nI k &&& 31)) = nI (2 ^ k) := by decide +kernel
theorem p_and {a b : Nat} (ha : a < 2 ^ 31) (hb : b < 2 ^ 31) : nI a &&& nI b = nI (a &&& b) := by
  apply Int32.toBitVec_inj.mp
  rw [Int32.toBitVec_and]
  apply BitVec.eq_of_toNat_eq
  have hab : a &&& b < 2 ^ 31 := Nat.and_lt_two_pow _ hb
  rw [BitVec.toNat_and, pk_tn (by omega), pk_tn (by omega), pk_tn (by omega)]
theorem p_or {a b : Nat} (ha : a < 2 ^ 31) (hb : b < 2 ^ 31) : nI a ||| nI b = nI (a ||| b) := by
  apply Int32.toBitVec_inj.mp
  rw [Int32.toBitVec_or]
  apply BitVec.eq_of_toNat_eq
  have hab : a ||| b < 2 ^ 31 := Nat.or_lt_two_pow ha hb
  rw [BitVec.toNat_or, pk_tn (by omega), pk_tn (by omega), pk_tn (by omega)]
theorem dset_eq {n f : Nat} (h : Nat → Nat) (lk : Nat → Nat → Bool) (hf : f < n) : (fset n lk f ||| 2 ^ f) &&& aset n h = dset n h lk f := by
  have h2 : 2 ^ f < 2 ^ n := Nat.pow_lt_pow_right (by decide) hf
  apply setOf_ext (n := n) (Nat.and_lt_two_pow _ (setOf_lt _ n)) (setOf_lt _ n)
  intro k hk
  rw [Nat.testBit_and, Nat.testBit_or, setOf_bit, setOf_bit, setOf_bit, Nat.testBit_two_pow]
  by_cases hkf : k = f
  · subst hkf; simp [hk]
  · have : ¬ f = k := fun q => hkf q.symm
    have h9 : (k == f) = false := by simp [hkf]
    rw [h9]
    simp [hk, this]
theorem p_doneUp9 {n f : Nat} (hn : n ≤ 7) (hf : f < n) {told st : Nat → Int32} {h : Nat → Nat} {lk : Nat → Nat → Bool} (h0 : told 0 = nI n) (hs : ∀ k, k < 7 → st k = nI (h k)) (hb : ∀ k, h k ≤ 20) (hl : ∀ a, a < n → st (7 + a) = nI (lset n lk a)) : f_X9_doneUp told st (nI f) = some (nI (dset n h lk f)) := by
  unfold f_X9_doneUp
  have hlt : fset n lk f < 128 := setOf_lt7 (fun a => lk a f) hn
  have hlt2 : aset n h < 128 := setOf_lt7 (fun k => !(h k == 0)) hn
  have h2 : 2 ^ f < 2 ^ 7 := Nat.pow_lt_pow_right (by decide) (by omega)
  rw [p_favouring hn hf h0 hl, bs, p_alive hn h0 hs hb, bs, p_bits2 f (by omega), p_or (by omega) (by omega), p_and (Nat.or_lt_two_pow (by omega) (by omega)) (by omega), dset_eq h lk hf]
theorem p_isFrozen7 {n k : Nat} (hn : n ≤ 7) (hk : k < n) (h : Nat → Nat) : f_X7_isFrozen (nI (zset n h)) (nI k) = some (if h k = 0 then 1 else 0) := by
  unfold f_X7_isFrozen
  have hlt : zset n h < 128 := setOf_lt7 (fun k => h k == 0) hn
  rw [p_holds _ (by omega) k (by omega), bs, setOf_bit]
  by_cases hz : h k = 0 <;> simp [hz, hk] <;> rfl
theorem p_andn {n a : Nat} (hn : n ≤ 7) (ha : a < 2 ^ n) (P : Nat → Bool) : nI a &&& (nI (setOf n P) ^^^ (-1)) = nI (a &&& setOf n (fun k => !P k)) := by
  have hp : 2 ^ n ≤ 2 ^ 7 := Nat.pow_le_pow_right (by decide) hn
  have hlt := setOf_lt7 (fun k => !P k) hn
  have e : nI a = nI a &&& nI (2 ^ n - 1) := by
    rw [p_and (by omega) (by omega), Nat.and_two_pow_sub_one_of_lt_two_pow ha]
  rw [e, Int32.and_assoc, p_compl n hn _ (setOf_lt _ n), setOf_not, p_and (by omega) (by omega)]
theorem p_doneUp7 {n f : Nat} (hn : n ≤ 7) (hf : f < n) {h : Nat → Nat} {lk : Nat → Nat → Bool} {fav : Nat → Int32} (hF : fav f = nI (fset n lk f)) : f_X7_doneUpFor (nI (zset n h)) fav (nI f) = some (if h f = 0 then 0 else nI (dset n h lk f)) := by
  unfold f_X7_doneUpFor
  have h2 : 2 ^ f < 2 ^ n := Nat.pow_lt_pow_right (by decide) hf
  have h3 : 2 ^ n ≤ 2 ^ 7 := Nat.pow_le_pow_right (by decide) hn
  have hlt : fset n lk f < 2 ^ n := setOf_lt (fun a => lk a f) n
  rw [if_neg, p_isFrozen7 hn hf h, bs]
  · by_cases hz : h f = 0
    · rw [if_pos hz, if_neg (by decide), if_pos hz]
    · rw [if_neg hz, if_pos rfl, if_neg hz, gd_nI (by omega) (by omega), cl (by omega), p_bit f (by omega), bs, hF, p_or (by omega) (by omega), p_andn hn (Nat.or_lt_two_pow hlt h2), dset_eq h lk hf]
  · intro q
    have := congrArg Int32.toInt q
    rw [nI_toI (by omega)] at this
    have e : (-1 : Int32).toInt = -1 := by decide
    omega
theorem p_doneUpN (z : Int32) (fav : Nat → Int32) : f_X7_doneUpFor z fav (-1) = some 0 := by
  unfold f_X7_doneUpFor
  rw [if_pos rfl]
