theorem p_price_loop {n s : Nat} (hn : n ≤ 7) (hs : s < 256) (prices : Nat → Int32) : ∀ (m k F : Nat), k + m = n → m < F → f_X5_priceOfSet_b4 (nI n) prices F (nI s) (wsum prices s k) (nI k) = some (wsum prices s n) := by
  intro m
  induction m with
  | zero =>
    intro k F hk hF
    obtain ⟨F, rfl⟩ : ∃ F', F = F' + 1 := ⟨F - 1, by omega⟩
    obtain rfl : k = n := by omega
    show f_X5_priceOfSet_s4 _ _ _ _ _ _ = _
    unfold f_X5_priceOfSet_s4
    rw [if_pos (nI_le (Nat.le_refl _) (by omega))]
  | succ m ih =>
    intro k F hk hF
    obtain ⟨F, rfl⟩ : ∃ F', F = F' + 1 := ⟨F - 1, by omega⟩
    show f_X5_priceOfSet_s4 _ _ (f_X5_priceOfSet_b4 (nI n) prices F) _ _ _ = _
    unfold f_X5_priceOfSet_s4 f_X5_priceOfSet_b29
    have h2 := ih (k + 1) F (by omega) (by omega)
    rw [if_neg (nI_ge (by omega) (by omega)), p_holds s hs k (by omega), gd_nI (by omega) (by omega), cl (by omega)]
    simp only [bs, nI_1]
    by_cases hb : s.testBit k = true
    · rw [if_pos hb, if_neg (by decide)]
      simpa only [wsum, if_pos hb] using h2
    · rw [if_neg hb, if_pos rfl]
      simpa only [wsum, if_neg hb, Int32.add_zero] using h2
theorem p_price {n s : Nat} (hn : n ≤ 7) (hs : s < 256) (prices : Nat → Int32) : f_X5_priceOfSet (nI n) prices (nI s) = some (wsum prices s n) := p_price_loop hn hs prices n 0 5000 (by omega) (by omega)
def winF (W : Nat → Bool) (pr : Nat → Int32) : Nat → Option Nat × Int32
  | 0 => (none, 0)
  | k + 1 => if W k && ((winF W pr k).1.isNone || !decide ((winF W pr k).2 ≤ pr k)) then (some k, pr k) else winF W pr k
theorem winF_lt {W : Nat → Bool} {pr : Nat → Int32} : ∀ k s, (winF W pr k).1 = some s → s < k := by
  intro k
  induction k with
  | zero => intro s h; cases h
  | succ k ih =>
    intro s h
    rw [winF] at h
    split at h
    · cases h; omega
    · have := ih s h; omega
theorem oI_none {b : Option Nat} (hb : ∀ t, b = some t → t < 128) : (oI b = -1) ↔ b.isNone = true := by
  cases b with
  | none => exact ⟨fun _ => rfl, fun _ => rfl⟩
  | some t =>
    have := hb t rfl
    refine ⟨fun q => ?_, fun q => by cases q⟩
    have q2 := congrArg Int32.toInt q
    have e : (-1 : Int32).toInt = -1 := by decide
    have e2 : (oI (some t)).toInt = t := nI_toI (by omega)
    omega
theorem oI_neg {b : Option Nat} (hb : ∀ t, b = some t → t < 128) : (oI b < 0) ↔ b.isNone = true := by
  cases b with
  | none => exact ⟨fun _ => rfl, fun _ => by decide⟩
  | some t =>
    have := hb t rfl
    exact ⟨fun q => absurd q (nI_pos (by omega)), fun q => by cases q⟩
def wnB (kinds : Nat → Int32) (wn cd : Nat → Nat) (q n c d up ot s : Nat) : Bool := decide (s &&& ot = s) && (!decide (wSet kinds n d (up ||| s) < nI q) && !decide (warmN wn n (up ||| s) < coldN c cd d))
def winR (b : Option Nat) (price p : Int32) : Int32 := if b.isNone then -1 else if p = 0 then price else oI b
theorem p_wonBy {n q c d s : Nat} (hn : n ≤ 7) (hc : c ≤ 6) (hd : d < 1024) (hs : s < 128) {kinds warmths colds : Nat → Int32} {wn cd : Nat → Nat} (hw : ∀ k, k < n → warmths k = nI (wn k) ∧ wn k ≤ 9) (hcs : ∀ j, j < c → colds j = nI (cd j)) (hcd : ∀ j, cd j ≤ 40) : f_X8_isWonBy (nI d) (nI n) (nI q) (nI c) kinds warmths colds (nI s) = some (b2 (!decide (wSet kinds n d s < nI q) && !decide (warmN wn n s < coldN c cd d))) := by
  unfold f_X8_isWonBy
  obtain ⟨w1, w2⟩ := warm_nI (s := s) hw
  have hcl : coldN c cd d ≤ 40 := cold_le hcd
  rw [p_night7 d hd, bs, p_carriedBy hn (by omega), bs, p_warmthOfSet hn hs, bs, w1, p_cold5 hc (by omega) hcs, bs]
  by_cases h1 : wSet kinds n d s < nI q
  · simp [h1, b2]
  · have e1 : ¬ b2 (!decide (wSet kinds n d s < nI q)) = 0 := by simp [h1, b2]
    rw [if_neg e1]
    by_cases h2 : warmN wn n s < coldN c cd d
    · rw [if_pos (nI_lt h2 (by omega))]; simp [h1, h2, b2]
    · rw [if_neg (nI_nlt (by omega) (by omega))]; simp [h1, h2, b2]
theorem p_win8_loop {n q c d up ot : Nat} (hn : n ≤ 7) (hc : c ≤ 6) (hd : d < 1024) (hup : up < 2 ^ n) (hot : ot < 2 ^ n) {kinds warmths colds prices fav : Nat → Int32} {wn cd : Nat → Nat} (hw : ∀ k, k < n → warmths k = nI (wn k) ∧ wn k ≤ 9) (hcs : ∀ j, j < c → colds j = nI (cd j)) (hcd : ∀ j, cd j ≤ 40) (z p : Int32) (hp01 : p = 0 ∨ p = 1) : ∀ (m k F : Nat), k + m = 2 ^ n → m < F → f_X8_win_b45 (nI n) (nI q) (nI c) (nI d) z fav kinds warmths colds prices F p (nI up) (nI ot) (oI (winF (wnB kinds wn cd q n c d up ot) (fun s => wsum prices s n) k).1) (winF (wnB kinds wn cd q n c d up ot) (fun s => wsum prices s n) k).2 (nI k) = some (winR (winF (wnB kinds wn cd q n c d up ot) (fun s => wsum prices s n) (2 ^ n)).1 (winF (wnB kinds wn cd q n c d up ot) (fun s => wsum prices s n) (2 ^ n)).2 p) := by
  have hp : 2 ^ n ≤ 2 ^ 7 := Nat.pow_le_pow_right (by decide) hn
  have hp1 : 0 < 2 ^ n := Nat.pos_of_ne_zero (by simp)
  intro m
  induction m with
  | zero =>
    intro k F hk hF
    obtain ⟨F, rfl⟩ : ∃ F', F = F' + 1 := ⟨F - 1, by omega⟩
    obtain rfl : k = 2 ^ n := by omega
    show f_X8_win_s45 _ _ _ _ _ _ _ _ _ _ (f_X8_win_b45 (nI n) (nI q) (nI c) (nI d) z fav kinds warmths colds prices F) _ _ _ _ _ _ = _
    unfold f_X8_win_s45 f_X8_win_b131
    have ho := oI_none (b := (winF (wnB kinds wn cd q n c d up ot) (fun s => wsum prices s n) (2 ^ n)).1) (fun t e => by have := winF_lt _ t e; omega)
    rw [(p_all n hn).1, bs, if_pos (nI_lt (by omega) (by omega))]
    unfold winR
    by_cases h1 : (winF (wnB kinds wn cd q n c d up ot) (fun s => wsum prices s n) (2 ^ n)).1.isNone = true
    · rw [if_pos (ho.mpr h1), if_pos h1, ho.mpr h1]
    · rw [if_neg (fun q => h1 (ho.mp q)), if_neg h1]
      rcases hp01 with rfl | rfl
      · rw [if_neg (by decide), if_pos rfl]
      · rw [if_pos rfl, if_neg (by decide)]
  | succ m ih =>
    intro k F hk hF
    obtain ⟨F, rfl⟩ : ∃ F', F = F' + 1 := ⟨F - 1, by omega⟩
    show f_X8_win_s45 _ _ _ _ _ _ _ _ _ _ (f_X8_win_b45 (nI n) (nI q) (nI c) (nI d) z fav kinds warmths colds prices F) _ _ _ _ _ _ = _
    unfold f_X8_win_s45 f_X8_win_b106 f_X8_win_b114
    have h2 := ih (k + 1) F (by omega) (by omega)
    rw [winF] at h2
    have hor : up ||| k < 128 := Nat.or_lt_two_pow (n := 7) (by omega) (by omega)
    have ho := oI_none (b := (winF (wnB kinds wn cd q n c d up ot) (fun s => wsum prices s n) k).1) (fun t e => by have := winF_lt _ t e; omega)
    rw [(p_all n hn).1, bs, if_neg (nI_nlt (by omega) (by omega)), p_within k (by omega) _ (by omega), bs, p_or (by omega) (by omega), p_wonBy hn hc hd hor hw hcs hcd, bs, p_price hn (by omega), bs, nI_1]
    by_cases h1 : k &&& ot = k
    · rw [if_pos h1, if_neg (by decide)]
      have e : wnB kinds wn cd q n c d up ot k = (!decide (wSet kinds n d (up ||| k) < nI q) && !decide (warmN wn n (up ||| k) < coldN c cd d)) := by unfold wnB; simp [h1]
      rw [← e]
      cases hb : wnB kinds wn cd q n c d up ot k with
      | false => rw [hb] at h2; exact h2
      | true =>
        rw [hb, Bool.true_and] at h2
        rw [if_neg (show ¬ b2 true = 0 by decide)]
        by_cases h3 : (winF (wnB kinds wn cd q n c d up ot) (fun s => wsum prices s n) k).1.isNone = true
        · rw [if_pos (ho.mpr h3)]
          simp only [h3, Bool.true_or, if_true] at h2
          exact h2
        · rw [if_neg (fun q => h3 (ho.mp q))]
          have h3' : (winF (wnB kinds wn cd q n c d up ot) (fun s => wsum prices s n) k).1.isNone = false := Bool.eq_false_iff.mpr h3
          rw [h3', Bool.false_or] at h2
          by_cases h4 : (winF (wnB kinds wn cd q n c d up ot) (fun s => wsum prices s n) k).2 ≤ wsum prices k n
          · rw [if_pos h4]
            simp only [h4, decide_true, Bool.not_true] at h2
            exact h2
          · rw [if_neg h4]
            simp only [h4, decide_false, Bool.not_false, if_true] at h2
            exact h2
    · have e : wnB kinds wn cd q n c d up ot k = false := by unfold wnB; simp [h1]
      rw [if_neg h1, if_pos rfl]
      rw [e] at h2
      exact h2
