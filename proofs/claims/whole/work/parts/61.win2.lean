theorem p_w9_in {n s : Nat} (hn : n ≤ 7) (hs : s < 256) {told st prices : Nat → Int32} (t0 : told 0 = nI n) (tp : ∀ f, f < 7 → told (17 + f) = prices f) (K : Int32 → Int32 → Int32 → Int32 → Int32 → Int32 → Option Int32) (x2 x3 x4 x5 x6 x8 : Int32) : ∀ (m k F : Nat), k + m = n → m < F → f_X9_win_b128 told st K F x2 x3 x4 x5 x6 (nI s) x8 (wsum prices s k) (nI k) = (if x8 = 0 then K x2 x3 x4 x5 x6 (nI (s + 1)) else if x5 < 0 then K x2 x3 x4 (nI s) (wsum prices s n) (nI (s + 1)) else if x6 ≤ wsum prices s n then K x2 x3 x4 x5 x6 (nI (s + 1)) else K x2 x3 x4 (nI s) (wsum prices s n) (nI (s + 1))) := by
  intro m
  induction m with
  | zero =>
    intro k F hk hF
    obtain ⟨F, rfl⟩ : ∃ F', F = F' + 1 := ⟨F - 1, by omega⟩
    obtain rfl : k = n := by omega
    show f_X9_win_s128 told st K (f_X9_win_b128 told st K F) _ _ _ _ _ _ _ _ _ = _
    unfold f_X9_win_s128 f_X9_win_b199 f_X9_win_b191 f_X9_win_b199
    rw [t0, if_pos (nI_le (Nat.le_refl _) (by omega)), nI_1]
  | succ m ih =>
    intro k F hk hF
    obtain ⟨F, rfl⟩ : ∃ F', F = F' + 1 := ⟨F - 1, by omega⟩
    show f_X9_win_s128 told st K (f_X9_win_b128 told st K F) _ _ _ _ _ _ _ _ _ = _
    unfold f_X9_win_s128 f_X9_win_b165
    have h2 := ih (k + 1) F (by omega) (by omega)
    rw [t0, if_neg (nI_ge (by omega) (by omega)), p_has s hs k (by omega), bs, l17, gd_nI (by omega) (by omega), cl (by omega), tp k (by omega), nI_1]
    by_cases hb : s.testBit k = true
    · rw [if_pos hb, if_neg (by decide)]
      rw [wsum, if_pos hb] at h2
      exact h2
    · rw [if_neg hb, if_pos rfl]
      rw [wsum, if_neg hb] at h2
      exact h2
theorem p_win9_loop {n q c d up ot : Nat} (hn : n ≤ 7) (hc : c ≤ 6) (hd : d < 1024) (hup : up < 2 ^ n) (hot : ot < 2 ^ n) {told st kinds prices : Nat → Int32} {wn cd : Nat → Nat} (t0 : told 0 = nI n) (t1 : told 1 = nI q) (t2 : told 2 = nI c) (s14 : st 14 = nI d) (tk : ∀ f, f < 7 → told (3 + f) = kinds f) (tp : ∀ f, f < 7 → told (17 + f) = prices f) (hw : ∀ k, k < n → told (10 + k) = nI (wn k) ∧ wn k ≤ 9) (hcs : ∀ j, j < c → told (31 + j) = nI (cd j)) (hcd : ∀ j, cd j ≤ 40) (p : Int32) : ∀ (m k F : Nat), k + m = 2 ^ n → m < F → f_X9_win_b60 told st F p (nI up) (nI ot) (oI (winF (wnB kinds wn cd q n c d up ot) (fun s => wsum prices s n) k).1) (winF (wnB kinds wn cd q n c d up ot) (fun s => wsum prices s n) k).2 (nI k) = some (winR (winF (wnB kinds wn cd q n c d up ot) (fun s => wsum prices s n) (2 ^ n)).1 (winF (wnB kinds wn cd q n c d up ot) (fun s => wsum prices s n) (2 ^ n)).2 p) := by
  have hp : 2 ^ n ≤ 2 ^ 7 := Nat.pow_le_pow_right (by decide) hn
  have hp1 : 0 < 2 ^ n := Nat.pos_of_ne_zero (by simp)
  have hcl : coldN c cd d ≤ 40 := cold_le hcd
  intro m
  induction m with
  | zero =>
    intro k F hk hF
    obtain ⟨F, rfl⟩ : ∃ F', F = F' + 1 := ⟨F - 1, by omega⟩
    obtain rfl : k = 2 ^ n := by omega
    show f_X9_win_s60 told st (f_X9_win_b60 told st F) _ _ _ _ _ _ = _
    unfold f_X9_win_s60
    rw [t0, (p_all n hn).2.1, if_pos (nI_le (Nat.le_refl _) (by omega))]
    unfold winR
    cases hb : (winF (wnB kinds wn cd q n c d up ot) (fun s => wsum prices s n) (2 ^ n)).1 with
    | none => rfl
    | some t =>
      have := winF_lt _ t hb
      rw [if_pos (show (0 : Int32) ≤ oI (some t) from nI_pos' (by omega))]
      simp only [Option.isNone_some]
      by_cases h0 : p = 0
      · simp [h0]
      · simp [h0]
  | succ m ih =>
    intro k F hk hF
    obtain ⟨F, rfl⟩ : ∃ F', F = F' + 1 := ⟨F - 1, by omega⟩
    show f_X9_win_s60 told st (f_X9_win_b60 told st F) _ _ _ _ _ _ = _
    have hks : k < 2 ^ n := by omega
    unfold f_X9_win_s60 f_X9_win_b119 f_X9_win_b120
    have h2 := ih (k + 1) F (by omega) (by omega)
    rw [winF] at h2
    have hor : up ||| k < 128 := Nat.or_lt_two_pow (n := 7) (by omega) (by omega)
    have ho := oI_neg (b := (winF (wnB kinds wn cd q n c d up ot) (fun s => wsum prices s n) k).1) (fun t e => by have := winF_lt _ t e; omega)
    obtain ⟨w1, w2⟩ := warm_nI (s := up ||| k) (wi := fun k => told (10 + k)) hw
    have hin : ∀ x8, f_X9_win_b128 told st (f_X9_win_b60 told st F) 5000 p (nI up) (nI ot) (oI (winF (wnB kinds wn cd q n c d up ot) (fun s => wsum prices s n) k).1) (winF (wnB kinds wn cd q n c d up ot) (fun s => wsum prices s n) k).2 (nI k) x8 0 0 = _ := fun x8 => p_w9_in (st := st) hn (show k < 256 by omega) t0 tp (f_X9_win_b60 told st F) p (nI up) (nI ot) (oI (winF (wnB kinds wn cd q n c d up ot) (fun s => wsum prices s n) k).1) (winF (wnB kinds wn cd q n c d up ot) (fun s => wsum prices s n) k).2 x8 n 0 5000 (by omega) (by omega)
    rw [hin 0, hin 1]
    rw [t0, (p_all n hn).2.1, if_neg (nI_ge (by omega) (by omega)), p_or (by omega) (by omega), p_weights9 hn hd (by omega) t0 s14 tk, bs, p_warmBy hn hor told t0, bs, w1, p_cold9 hc (by omega) t2 s14 hcs, bs, t1]
    simp only [if_pos (show (0 : Int32) = 0 from rfl), if_neg (show ¬ (1 : Int32) = 0 by decide)]
    by_cases h1 : k &&& ot = k
    · rw [if_pos ((p_subset hn hks hot).mpr h1)]
      by_cases h5 : wSet kinds n d (up ||| k) < nI q
      · have e : wnB kinds wn cd q n c d up ot k = false := by unfold wnB; simp [h5]
        rw [if_pos h5]
        rw [e] at h2
        exact h2
      · rw [if_neg h5]
        by_cases h6 : warmN wn n (up ||| k) < coldN c cd d
        · have e : wnB kinds wn cd q n c d up ot k = false := by unfold wnB; simp [h6]
          rw [if_pos (nI_lt h6 (by omega))]
          rw [e] at h2
          exact h2
        · have e : wnB kinds wn cd q n c d up ot k = true := by unfold wnB; simp [h1, h5, h6]
          rw [if_neg (nI_nlt (by omega) (by omega))]
          rw [e, Bool.true_and] at h2
          by_cases h3 : (winF (wnB kinds wn cd q n c d up ot) (fun s => wsum prices s n) k).1.isNone = true
          · rw [if_pos (ho.mpr h3)]
            simp only [h3, Bool.true_or, if_true] at h2
            exact h2
          · rw [if_neg (fun q => h3 (ho.mp q))]
            have h3' : (winF (wnB kinds wn cd q n c d up ot) (fun s => wsum prices s n) k).1.isNone = false := Bool.eq_false_iff.mpr h3
            rw [h3', Bool.false_or] at h2
            by_cases h4 : (winF (wnB kinds wn cd q n c d up ot) (fun s => wsum prices s n) k).2 ≤ wsum prices k n
            · rw [if_pos h4]
              simp only [h4, decide_true, Bool.not_true] at h2
              exact h2
            · rw [if_neg h4]
              simp only [h4, decide_false, Bool.not_false, if_true] at h2
              exact h2
    · have e : wnB kinds wn cd q n c d up ot k = false := by unfold wnB; simp [h1]
      rw [if_neg (fun q => h1 ((p_subset hn hks hot).mp q))]
      rw [e] at h2
      exact h2
theorem p_rng {hi : Nat} (hh : hi < 100) (x : Int32) : (∃ k, k ≤ hi ∧ x = nI k ∧ ¬ x < 0 ∧ x ≤ nI hi ∧ f_X9_in (Int32.toInt64 x) 0 (Int32.toInt64 (nI hi)) = some 1) ∨ ((x < 0 ∨ ¬ x ≤ nI hi) ∧ f_X9_in (Int32.toInt64 x) 0 (Int32.toInt64 (nI hi)) = some 0) := by
  have e0 : (0 : Int32).toInt = 0 := rfl
  by_cases h : 0 ≤ x ∧ x ≤ nI hi
  · left
    have h1 : ¬ x < 0 := fun q => by have a := Int32.lt_iff_toInt_lt.mp q; have b := Int32.le_iff_toInt_le.mp h.1; omega
    obtain ⟨j, hj, rfl⟩ := nI_of (x := x) h1
    refine ⟨j, (nI_leI hj (by omega)).mp h.2, rfl, h1, h.2, ?_⟩
    rw [p_in0, if_pos h]
  · right
    refine ⟨?_, by rw [p_in0, if_neg h]⟩
    by_cases h1 : x < 0
    · exact Or.inl h1
    · refine Or.inr (fun q => h ⟨Int32.le_iff_toInt_le.mpr ?_, q⟩)
      have : ¬ x.toInt < 0 := fun q => h1 (Int32.lt_iff_toInt_lt.mpr (by omega))
      omega
theorem p_refO {n f : Nat} {h : Nat → Nat} {x2 x3 : Int32} (ho : x2 < 0 ∨ ¬ x2 ≤ x3) (hfam : f_X8_isFamily (nI n) (nI f) = some 1) : f_X8_refusalFor (nI n) (nI (zset n h)) (nI f) x2 x3 = some (-3) := by
  unfold f_X8_refusalFor
  rw [hfam, bs, if_neg (by decide)]
  by_cases h1 : x2 < 0
  · rw [if_pos h1]
  · rw [if_neg h1, if_neg (ho.resolve_left h1)]
theorem p_refU {n : Nat} {x z x2 x3 : Int32} (hfam : f_X8_isFamily (nI n) x = some 0) : f_X8_refusalFor (nI n) z x x2 x3 = some (-2) := by
  unfold f_X8_refusalFor
  rw [hfam]; rfl
theorem won_eq {n f : Nat} (hn : n ≤ 7) {h : Nat → Nat} {lk : Nat → Nat → Bool} (hf : f < n) (hz : ¬ h f = 0) : oset n h f &&& (2 ^ n - 1 - dset n h lk f) = aset n h &&& (2 ^ n - 1 - dset n h lk f) := by
  rw [setOf_not]
  apply setOf_ext (n := n) (Nat.and_lt_two_pow _ (setOf_lt _ n)) (Nat.and_lt_two_pow _ (setOf_lt _ n))
  intro k hk
  rw [Nat.testBit_and, Nat.testBit_and, setOf_bit, setOf_bit, setOf_bit]
  by_cases e : k = f
  · subst e; simp [hz]
  · have e2 : (k == f) = false := by simp [e]
    simp [e2]
theorem q_win {n q c d : Nat} {wn cd h : Nat → Nat} {lt lk : Nat → Nat → Bool} {fam quota cc date frozen : Int32} {kinds warmths prices tfav colds told healths fav st : Nat → Int32} (T : TOR n q c wn cd lt fam quota cc kinds warmths prices tfav colds told) (Wi : WIR n d h lk date frozen healths fav st) (x p : Int32) : ∃ r, f_X8_win fam quota cc date frozen fav kinds warmths colds prices x p = some r ∧ f_X9_win told st x p = some r := by
  obtain ⟨hn, hq, hc, ⟨rfl, rfl, rfl⟩, ⟨t0, t1, t2⟩, tk, tw, tp, tc, hw, hkd, hcs, hcd, hF, hL⟩ := T
  obtain ⟨hd, rfl, s14, rfl, hh, hs, hb, hz, wF, wL, hlk⟩ := Wi
  have hp : 2 ^ n ≤ 2 ^ 7 := Nat.pow_le_pow_right (by decide) hn
  have hp1 : 0 < 2 ^ n := Nat.pos_of_ne_zero (by simp)
  unfold f_X8_win f_X9_win
  rcases p_fam hn t0 x with ⟨f, hf, rfl, e8, e9⟩ | ⟨-, e8, e9⟩
  · rw [e9, bs, if_neg (show ¬ (1 : Int32) = 0 by decide)]
    rcases p_rng (hi := 1) (by decide) p with ⟨k, hk, hpk, h1, h2, h9⟩ | ⟨ho, h9⟩
    · have h9' : f_X9_in (Int32.toInt64 p) 0 1 = some 1 := h9
      rw [h9', bs, if_neg (show ¬ (1 : Int32) = 0 by decide), p_refusal hn hf h h1 (show p ≤ 1 from h2) e8, bs, p_isFrozen9 (by omega) (hs f (by omega)) (hb f), bs]
      by_cases hz' : h f = 0
      · rw [if_pos hz', if_neg (by decide), if_pos hz', if_neg (by decide)]
        exact ⟨_, rfl, rfl⟩
      · have hdl : dset n h lk f < 2 ^ n := setOf_lt _ n
        have hol : oset n h f < 2 ^ n := setOf_lt _ n
        have hal : aset n h < 2 ^ n := setOf_lt _ n
        have hot : aset n h &&& (2 ^ n - 1 - dset n h lk f) < 2 ^ n := Nat.and_lt_two_pow _ (by omega)
        have hp01 : p = 0 ∨ p = 1 := by
          rcases (show k = 0 ∨ k = 1 by omega) with rfl | rfl
          · exact Or.inl hpk
          · exact Or.inr hpk
        rw [if_neg hz', if_pos rfl, if_neg hz', if_pos rfl, p_doneUp7 hn hf (wF f (by omega)), if_neg hz', bs, p_others hn hf h, bs, p_doneUp9 hn hf t0 hs hb (fun a ha => wL a (by omega)), bs, p_alive hn t0 hs hb, bs, p_minus hn hol hdl, p_minus hn hal hdl, won_eq hn hf hz']
        exact ⟨_, p_win8_loop hn hc (by omega) hdl hot hw hcs hcd _ p hp01 (2 ^ n) 0 5000 (by omega) (by omega), p_win9_loop hn hc (by omega) hdl hot t0 t1 t2 s14 tk tp (fun k hk => by rw [tw k (by omega)]; exact hw k hk) (fun j hj => by rw [tc j (by omega)]; exact hcs j hj) hcd p (2 ^ n) 0 5000 (by omega) (by omega)⟩
    · have h9' : f_X9_in (Int32.toInt64 p) 0 1 = some 0 := h9
      rw [h9', p_refO (x3 := 1) ho e8]
      exact ⟨_, rfl, rfl⟩
  · rw [p_refU e8, e9]
    exact ⟨_, rfl, rfl⟩
