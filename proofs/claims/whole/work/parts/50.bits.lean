def b2 (b : Bool) : Int32 := if b then 1 else 0
def pcn (s : Nat) : Nat := ((List.range 8).filter (fun k => s.testBit k)).length
theorem p_holds : ∀ s, s < 256 → ∀ k, k < 8 → f_X8_holds (nI s) (nI k) = some (if s.testBit k then 1 else 0) := by decide +kernel
theorem p_has : ∀ s, s < 256 → ∀ k, k < 9 → f_X9_has (nI s) (nI k) = some (if s.testBit k then 1 else 0) := by decide +kernel
theorem p_bit : ∀ k, k < 21 → f_X8_bit (nI k) = some (nI (2 ^ k)) := by decide +kernel
theorem p_with1 : ∀ s, s < 128 → ∀ k, k < 7 → f_X8_with (nI s) (nI k) 1 = some (nI (s ||| 2 ^ k)) := by decide +kernel
theorem p_with0 : ∀ s, s < 128 → ∀ k, k < 7 → f_X8_with (nI s) (nI k) 0 = some (nI (s - (s &&& 2 ^ k))) := by decide +kernel
theorem p_within : ∀ a, a < 128 → ∀ b, b < 128 → f_X8_isWithin (nI a) (nI b) = some (if a &&& b = a then 1 else 0) := by decide +kernel
theorem p_ones : ∀ s, s < 128 → f_X9_ones (nI s) = some (nI (pcn s)) := by decide +kernel
theorem p_bitCount : ∀ s, s < 128 → f_J6_bitCount_0f7a4 (nI s) = some (nI (pcn s)) := by decide +kernel
theorem gd_nI {α : Type} {k N : Nat} {x : Option α} (h : k < N) (hN : N < 2 ^ 31) : gd_ (nI k) N x = x := gd_in (vp_in_nI h hN)
theorem l3 (k : Nat) : (3 : Int32) + nI k = nI (3 + k) := nI_add 3 k
theorem l7 (k : Nat) : (7 : Int32) + nI k = nI (7 + k) := nI_add 7 k
theorem l10 (k : Nat) : (10 : Int32) + nI k = nI (10 + k) := nI_add 10 k
theorem l17 (k : Nat) : (17 : Int32) + nI k = nI (17 + k) := nI_add 17 k
theorem l24 (k : Nat) : (24 : Int32) + nI k = nI (24 + k) := nI_add 24 k
theorem l31 (k : Nat) : (31 : Int32) + nI k = nI (31 + k) := nI_add 31 k
theorem cl {k : Nat} (h : k < 2 ^ 31) : Int32.toNatClampNeg (nI k) = k := nI_clamp h
theorem bs {α β : Type} (a : α) (f : α → Option β) : (some a).bind f = f a := rfl
def wtI (kd : Int32) (night : Bool) : Int32 := if kd = 1 then (if night then 2 else 1) else if kd = 2 then 2 else if kd = 3 then (if night then 0 else 1) else 1
theorem p_weightOf (kinds : Nat → Int32) (night : Bool) {k : Nat} (hk : k < 7) : f_X5_weightOf kinds (nI k) (b2 night) = some (wtI (kinds k) night) := by
  unfold f_X5_weightOf wtI
  rw [gd_nI hk (by omega), cl (by omega)]
  cases night <;> (repeat' split) <;> first | rfl | (exfalso; simp_all [b2])
theorem p_weightBy (told : Nat → Int32) (night : Bool) {k : Nat} (hk : k < 7) : f_X9_weightBy told (nI k) (b2 night) = some (wtI (told (3 + k)) night) := by
  unfold f_X9_weightBy f_X9_weightBy_b23 f_X9_weightBy_b27 wtI
  rw [l3, gd_nI (by omega) (by omega), cl (by omega)]
  cases night <;> (repeat' split) <;> first | rfl | (exfalso; simp_all [b2])
def wsum (t : Nat → Int32) (s : Nat) : Nat → Int32
  | 0 => 0
  | k + 1 => wsum t s k + (if s.testBit k then t k else 0)
theorem p_wos_loop {n s : Nat} (hn : n ≤ 7) (hs : s < 256) (kinds : Nat → Int32) (night : Bool) : ∀ (m k F : Nat), k + m = n → m < F → f_X5_weightOfSet_b5 (nI n) kinds F (nI s) (b2 night) (wsum (fun k => wtI (kinds k) night) s k) (nI k) = some (wsum (fun k => wtI (kinds k) night) s n) := by
  intro m
  induction m with
  | zero =>
    intro k F hk hF
    obtain ⟨F, rfl⟩ : ∃ F', F = F' + 1 := ⟨F - 1, by omega⟩
    obtain rfl : k = n := by omega
    show f_X5_weightOfSet_s5 _ _ _ _ _ _ _ = _
    unfold f_X5_weightOfSet_s5
    rw [if_pos (nI_le (Nat.le_refl _) (by omega))]
  | succ m ih =>
    intro k F hk hF
    obtain ⟨F, rfl⟩ : ∃ F', F = F' + 1 := ⟨F - 1, by omega⟩
    show f_X5_weightOfSet_s5 _ _ (f_X5_weightOfSet_b5 (nI n) kinds F) _ _ _ _ = _
    unfold f_X5_weightOfSet_s5 f_X5_weightOfSet_b33
    have h2 := ih (k + 1) F (by omega) (by omega)
    rw [if_neg (nI_ge (by omega) (by omega)), p_holds s hs k (by omega), p_weightOf kinds night (by omega)]
    simp only [bs, nI_1]
    by_cases hb : s.testBit k = true
    · rw [if_pos hb, if_neg (by decide)]
      simpa only [wsum, if_pos hb] using h2
    · rw [if_neg hb, if_pos rfl]
      simpa only [wsum, if_neg hb, Int32.add_zero] using h2
theorem p_weightOfSet {n s : Nat} (hn : n ≤ 7) (hs : s < 256) (kinds : Nat → Int32) (night : Bool) : f_X5_weightOfSet (nI n) kinds (nI s) (b2 night) = some (wsum (fun k => wtI (kinds k) night) s n) := p_wos_loop hn hs kinds night n 0 5000 (by omega) (by omega)
theorem p_wby_loop {n s : Nat} (hn : n ≤ 7) (hs : s < 256) (told : Nat → Int32) (h0 : told 0 = nI n) (night : Bool) : ∀ (m k F : Nat), k + m = n → m < F → f_X9_weightsBy_b5 told F (nI s) (b2 night) (wsum (fun k => wtI (told (3 + k)) night) s k) (nI k) = some (wsum (fun k => wtI (told (3 + k)) night) s n) := by
  intro m
  induction m with
  | zero =>
    intro k F hk hF
    obtain ⟨F, rfl⟩ : ∃ F', F = F' + 1 := ⟨F - 1, by omega⟩
    obtain rfl : k = n := by omega
    show f_X9_weightsBy_s5 _ _ _ _ _ _ = _
    unfold f_X9_weightsBy_s5
    rw [h0, if_pos (nI_le (Nat.le_refl _) (by omega))]
  | succ m ih =>
    intro k F hk hF
    obtain ⟨F, rfl⟩ : ∃ F', F = F' + 1 := ⟨F - 1, by omega⟩
    show f_X9_weightsBy_s5 _ (f_X9_weightsBy_b5 told F) _ _ _ _ = _
    unfold f_X9_weightsBy_s5 f_X9_weightsBy_b37
    have h2 := ih (k + 1) F (by omega) (by omega)
    rw [h0, if_neg (nI_ge (by omega) (by omega)), p_has s hs k (by omega), p_weightBy told night (by omega)]
    simp only [bs, nI_1]
    by_cases hb : s.testBit k = true
    · rw [if_pos hb, if_neg (by decide)]
      simpa only [wsum, if_pos hb] using h2
    · rw [if_neg hb, if_pos rfl]
      simpa only [wsum, if_neg hb] using h2
theorem p_weightsBy {n s : Nat} (hn : n ≤ 7) (hs : s < 256) (told : Nat → Int32) (h0 : told 0 = nI n) (night : Bool) : f_X9_weightsBy told (nI s) (b2 night) = some (wsum (fun k => wtI (told (3 + k)) night) s n) := p_wby_loop hn hs told h0 night n 0 5000 (by omega) (by omega)
def wmI (w : Nat → Int32) (s : Nat) (k : Nat) : Int32 := if s.testBit (k + 1) ∨ (0 < k ∧ s.testBit (k - 1)) then w k else w k / 2
theorem p_beside : ∀ s, s < 128 → ((nI s <<< ((1 : Int32) &&& 31)) ||| (nI s >>> ((1 : Int32) &&& 31))) = nI ((2 * s) ||| (s / 2)) ∧ (2 * s) ||| (s / 2) < 256 ∧ ∀ k, k < 7 → (((2 * s) ||| (s / 2)).testBit k = true ↔ (s.testBit (k + 1) = true ∨ (0 < k ∧ s.testBit (k - 1) = true))) := by decide +kernel
theorem p_warm_loop {n s : Nat} (hn : n ≤ 7) (hs : s < 128) (w : Nat → Int32) : ∀ (m k F : Nat), k + m = n → m < F → f_X5_warmthOfSet_b13 (nI n) w F (nI s) (nI ((2 * s) ||| (s / 2))) (wsum (wmI w s) s k) (nI k) = some (wsum (wmI w s) s n) := by
  obtain ⟨-, hb1, hb2⟩ := p_beside s hs
  intro m
  induction m with
  | zero =>
    intro k F hk hF
    obtain ⟨F, rfl⟩ : ∃ F', F = F' + 1 := ⟨F - 1, by omega⟩
    obtain rfl : k = n := by omega
    show f_X5_warmthOfSet_s13 _ _ _ _ _ _ _ = _
    unfold f_X5_warmthOfSet_s13
    rw [if_pos (nI_le (Nat.le_refl _) (by omega))]
  | succ m ih =>
    intro k F hk hF
    obtain ⟨F, rfl⟩ : ∃ F', F = F' + 1 := ⟨F - 1, by omega⟩
    show f_X5_warmthOfSet_s13 _ _ (f_X5_warmthOfSet_b13 (nI n) w F) _ _ _ _ = _
    unfold f_X5_warmthOfSet_s13 f_X5_warmthOfSet_b60 f_X5_warmthOfSet_b62
    have h2 := ih (k + 1) F (by omega) (by omega)
    rw [if_neg (nI_ge (by omega) (by omega)), p_holds s (by omega) k (by omega), p_holds _ hb1 k (by omega)]
    simp only [bs, nI_1]
    by_cases hb : s.testBit k = true
    · rw [if_pos hb, if_neg (by decide), gd_nI (by omega) (by omega), gd_nI (by omega) (by omega), cl (by omega)]
      simp only [wsum, if_pos hb, wmI] at h2
      by_cases hc : ((2 * s) ||| (s / 2)).testBit k = true
      · rw [if_pos hc, if_neg (by decide)]
        rw [if_pos ((hb2 k (by omega)).mp hc)] at h2
        exact h2
      · rw [if_neg hc, if_pos rfl]
        rw [if_neg (fun q => hc ((hb2 k (by omega)).mpr q))] at h2
        exact h2
    · rw [if_neg hb, if_pos rfl]
      simpa only [wsum, if_neg hb, Int32.add_zero] using h2
theorem p_warmthOfSet {n s : Nat} (hn : n ≤ 7) (hs : s < 128) (w : Nat → Int32) : f_X5_warmthOfSet (nI n) w (nI s) = some (wsum (wmI w s) s n) := by
  unfold f_X5_warmthOfSet
  rw [(p_beside s hs).1]
  exact p_warm_loop hn hs w n 0 5000 (by omega) (by omega)
theorem p_warmBy_loop {n s : Nat} (hn : n ≤ 7) (hs : s < 128) (told : Nat → Int32) (h0 : told 0 = nI n) : ∀ (m k F : Nat), k + m = n → m < F → f_X9_warmBy_b4 told F (nI s) (wsum (wmI (fun k => told (10 + k)) s) s k) (nI k) = some (wsum (wmI (fun k => told (10 + k)) s) s n) := by
  intro m
  induction m with
  | zero =>
    intro k F hk hF
    obtain ⟨F, rfl⟩ : ∃ F', F = F' + 1 := ⟨F - 1, by omega⟩
    obtain rfl : k = n := by omega
    show f_X9_warmBy_s4 _ _ _ _ _ = _
    unfold f_X9_warmBy_s4
    rw [h0, if_pos (nI_le (Nat.le_refl _) (by omega))]
  | succ m ih =>
    intro k F hk hF
    obtain ⟨F, rfl⟩ : ∃ F', F = F' + 1 := ⟨F - 1, by omega⟩
    show f_X9_warmBy_s4 _ (f_X9_warmBy_b4 told F) _ _ _ = _
    unfold f_X9_warmBy_s4 f_X9_warmBy_b38 f_X9_warmBy_b42 f_X9_warmBy_b43 f_X9_warmBy_b86
    have h2 := ih (k + 1) F (by omega) (by omega)
    rw [h0, if_neg (nI_ge (by omega) (by omega))]
    simp only [nI_1]
    rw [p_has s (by omega) k (by omega), p_has s (by omega) (k + 1) (by omega), l10, gd_nI (by omega) (by omega), gd_nI (by omega) (by omega), cl (by omega)]
    simp only [bs]
    have hpred : 0 < k → f_X9_has (nI s) (nI k - 1) = some (if s.testBit (k - 1) then 1 else 0) := fun hp => by
      obtain ⟨j, rfl⟩ : ∃ j, k = j + 1 := ⟨k - 1, by omega⟩
      rw [nI_pred]
      exact p_has s (by omega) j (by omega)
    by_cases h1 : s.testBit (k + 1) = true
    · simp only [if_pos h1, wsum, wmI, true_or, if_true] at h2 ⊢
      by_cases hb : s.testBit k = true
      · simpa [hb, h1] using h2
      · simpa [hb, h1] using h2
    · by_cases hp : 0 < k
      · have hnl : ¬ nI k ≤ 0 := nI_nle hp (by omega)
        rw [hpred hp]
        by_cases h3 : s.testBit (k - 1) = true
        · simp only [wsum, wmI] at h2
          by_cases hb : s.testBit k = true
          · simpa [h1, h3, hb, hnl, hp, bs] using h2
          · simpa [h1, h3, hb, hnl, hp, bs] using h2
        · simp only [wsum, wmI] at h2
          by_cases hb : s.testBit k = true
          · simpa [h1, h3, hb, hnl, hp, bs] using h2
          · simpa [h1, h3, hb, hnl, hp, bs] using h2
      · obtain rfl : k = 0 := by omega
        simp only [wsum, wmI] at h2
        by_cases hb : s.testBit 0 = true
        · simpa [h1, hb, nI_0, wsum] using h2
        · simpa [h1, hb, nI_0, wsum] using h2
theorem p_warmBy {n s : Nat} (hn : n ≤ 7) (hs : s < 128) (told : Nat → Int32) (h0 : told 0 = nI n) : f_X9_warmBy told (nI s) = some (wsum (wmI (fun k => told (10 + k)) s) s n) := p_warmBy_loop hn hs told h0 n 0 5000 (by omega) (by omega)
