def TOR (n q c : Nat) (wn cd : Nat → Nat) (lt : Nat → Nat → Bool) (fam quota cc : Int32) (kinds warmths prices fav colds told : Nat → Int32) : Prop :=
  n ≤ 7 ∧ (1 ≤ q ∧ q ≤ 20) ∧ c ≤ 6 ∧ (fam = nI n ∧ quota = nI q ∧ cc = nI c) ∧ (told 0 = nI n ∧ told 1 = nI q ∧ told 2 = nI c) ∧ (∀ f, f < 7 → told (3 + f) = kinds f) ∧ (∀ f, f < 7 → told (10 + f) = warmths f) ∧ (∀ f, f < 7 → told (17 + f) = prices f) ∧ (∀ j, j < 6 → told (31 + j) = colds j) ∧
  (∀ f, f < n → warmths f = nI (wn f) ∧ wn f ≤ 9) ∧ (∀ f, f < n → ∃ k, k < 4 ∧ kinds f = nI k) ∧ (∀ j, j < c → colds j = nI (cd j)) ∧ (∀ j, cd j ≤ 40) ∧ (∀ b, b < n → fav b = nI (fset n lt b)) ∧ (∀ a, a < n → told (24 + a) = nI (lset n lt a))
def WIR (n d : Nat) (h : Nat → Nat) (lk : Nat → Nat → Bool) (date frozen : Int32) (healths fav st : Nat → Int32) : Prop :=
  d ≤ 999 ∧ date = nI d ∧ st 14 = nI d ∧ frozen = nI (zset n h) ∧ (∀ k, k < 7 → healths k = nI (h k)) ∧ (∀ k, k < 7 → st k = nI (h k)) ∧ (∀ k, h k ≤ 20) ∧ (∀ k, n ≤ k → h k = 0) ∧ (∀ b, b < 7 → fav b = nI (fset n lk b)) ∧ (∀ a, a < 7 → st (7 + a) = nI (lset n lk a)) ∧ (∀ a b, n ≤ a ∨ n ≤ b → lk a b = false)
theorem p_refusal {n f : Nat} (hn : n ≤ 7) (hf : f < n) (h : Nat → Nat) {x2 x3 : Int32} (h1 : ¬ x2 < 0) (h2 : x2 ≤ x3) (hfam : f_X8_isFamily (nI n) (nI f) = some 1) : f_X8_refusalFor (nI n) (nI (zset n h)) (nI f) x2 x3 = some (if h f = 0 then -4 else 0) := by
  unfold f_X8_refusalFor
  rw [hfam, bs, if_neg (by decide), if_neg h1, if_pos h2, p_isFrozen7 hn hf h, bs]
  by_cases hz : h f = 0
  · rw [if_pos hz, if_neg (by decide), if_pos hz]
  · rw [if_neg hz, if_pos rfl, if_neg hz]
theorem q_carried {n q c d : Nat} {wn cd h : Nat → Nat} {lt lk : Nat → Nat → Bool} {fam quota cc date frozen : Int32} {kinds warmths prices tfav colds told healths fav st : Nat → Int32} (T : TOR n q c wn cd lt fam quota cc kinds warmths prices tfav colds told) (Wi : WIR n d h lk date frozen healths fav st) (x : Int32) : ∃ r, f_X8_carried fam quota date frozen fav kinds x = some r ∧ f_X9_carried told st x = some r := by
  obtain ⟨hn, hq, hc, ⟨rfl, rfl, rfl⟩, ⟨t0, t1, t2⟩, tk, tw, tp, tc, hw, hkd, hcs, hcd, hF, hL⟩ := T
  obtain ⟨hd, rfl, s14, rfl, hh, hs, hb, hz, wF, wL, hlk⟩ := Wi
  rcases p_fam hn t0 x with ⟨f, hf, rfl, e8, e9⟩ | ⟨-, e8, e9⟩
  · unfold f_X8_carried f_X9_carried
    rw [p_refusal hn hf h (by decide) (by decide) e8, e9, bs, bs, if_neg (show ¬ (1 : Int32) = 0 by decide), p_isFrozen9 (by omega) (hs f (by omega)) (hb f), bs]
    by_cases hz' : h f = 0
    · rw [if_pos hz', if_neg (by decide), if_pos hz', if_neg (by decide)]
      exact ⟨_, rfl, rfl⟩
    · rw [if_neg hz', if_pos rfl, if_neg hz', if_pos rfl, p_carried7 hn hf (by omega) hq (wF f (by omega)), p_carried9 hn hf (by omega) t0 t1 s14 tk hs hb (fun a ha => wL a (by omega)), bs, bs]
      have e : worn kinds q n d h lk f = carr kinds q n d h lk f := by unfold worn; simp [hz']
      rw [e]
      cases carr kinds q n d h lk f <;> exact ⟨_, rfl, rfl⟩
  · refine ⟨-2, ?_, ?_⟩
    · unfold f_X8_carried f_X8_refusalFor
      rw [e8]; rfl
    · unfold f_X9_carried
      rw [e9]; rfl
theorem q_warm {n q c : Nat} {wn cd : Nat → Nat} {lt : Nat → Nat → Bool} {fam quota cc : Int32} {kinds warmths prices tfav colds told : Nat → Int32} (T : TOR n q c wn cd lt fam quota cc kinds warmths prices tfav colds told) (x : Int32) : ∃ r, f_X8_warm fam warmths x = some r ∧ f_X9_warm told x = some r := by
  obtain ⟨hn, hq, hc, ⟨rfl, rfl, rfl⟩, ⟨t0, t1, t2⟩, tk, tw, tp, tc, hw, hkd, hcs, hcd, hF, hL⟩ := T
  unfold f_X8_warm f_X9_warm
  have hp : 2 ^ n ≤ 2 ^ 7 := Nat.pow_le_pow_right (by decide) hn
  rcases p_set hn t0 x with ⟨s, hs, rfl, e8, e9⟩ | ⟨e8, e9⟩
  · rw [e8, e9, bs, bs, if_neg (show ¬ (1 : Int32) = 0 by decide), if_neg (show ¬ (1 : Int32) = 0 by decide), p_warmthOfSet hn (by omega), p_warmBy hn (by omega) told t0, bs, bs]
    have e : wsum (wmI warmths s) s n = wsum (wmI (fun k => told (10 + k)) s) s n := wsum_congr (fun k hk => by simp only [wmI, tw k (show k < 7 by omega)])
    rw [e]
    exact ⟨_, rfl, rfl⟩
  · rw [e8, e9]
    exact ⟨_, rfl, rfl⟩
theorem p_shl1 : ∀ s, s < 128 → ∀ n, n ≤ 7 → ((nI s <<< ((1 : Int32) &&& 31)) &&& nI (2 ^ n - 1)) = nI ((2 * s) &&& (2 ^ n - 1)) := by decide +kernel
theorem q_wrong {n q c d : Nat} {wn cd h : Nat → Nat} {lt lk : Nat → Nat → Bool} {fam quota cc date frozen : Int32} {kinds warmths prices tfav colds told healths fav st : Nat → Int32} (T : TOR n q c wn cd lt fam quota cc kinds warmths prices tfav colds told) (Wi : WIR n d h lk date frozen healths fav st) (x : Int32) : ∃ r, f_X8_wrong fam frozen fav warmths x = some r ∧ f_X9_wrong told st x = some r := by
  obtain ⟨hn, hq, hc, ⟨rfl, rfl, rfl⟩, ⟨t0, t1, t2⟩, tk, tw, tp, tc, hw, hkd, hcs, hcd, hF, hL⟩ := T
  obtain ⟨hd, rfl, s14, rfl, hh, hs, hb, hz, wF, wL, hlk⟩ := Wi
  have hp : 2 ^ n ≤ 2 ^ 7 := Nat.pow_le_pow_right (by decide) hn
  rcases p_fam hn t0 x with ⟨f, hf, rfl, e8, e9⟩ | ⟨-, e8, e9⟩
  · unfold f_X8_wrong f_X9_wrong
    rw [p_refusal hn hf h (by decide) (by decide) e8, e9, bs, bs, if_neg (show ¬ (1 : Int32) = 0 by decide), p_isFrozen9 (by omega) (hs f (by omega)) (hb f), bs]
    by_cases hz' : h f = 0
    · rw [if_pos hz', if_neg (by decide), if_pos hz', if_neg (by decide)]
      exact ⟨_, rfl, rfl⟩
    · have hlt : dset n h lk f < 128 := setOf_lt7 _ hn
      have hand : (2 * dset n h lk f) &&& (2 ^ n - 1) < 128 := by
        have : (2 * dset n h lk f) &&& (2 ^ n - 1) < 2 ^ n := Nat.and_lt_two_pow _ (by have := Nat.pos_of_ne_zero (show 2 ^ n ≠ 0 by simp); omega)
        omega
      rw [if_neg hz', if_pos rfl, if_neg hz', if_pos rfl, p_doneUp7 hn hf (wF f (by omega)), if_neg hz', p_doneUp9 hn hf t0 hs hb (fun a ha => wL a (by omega)), bs, bs, (p_all n hn).1, bs, t0, (p_all n hn).2.2, p_shl1 _ hlt n hn, p_warmthOfSet hn hand, p_warmBy hn hand told t0, bs, bs]
      have e : wsum (wmI warmths ((2 * dset n h lk f) &&& (2 ^ n - 1))) ((2 * dset n h lk f) &&& (2 ^ n - 1)) n = wsum (wmI (fun k => told (10 + k)) ((2 * dset n h lk f) &&& (2 ^ n - 1))) ((2 * dset n h lk f) &&& (2 ^ n - 1)) n := wsum_congr (fun k hk => by simp only [wmI, tw k (show k < 7 by omega)])
      rw [e]
      exact ⟨_, rfl, rfl⟩
  · refine ⟨-2, ?_, ?_⟩
    · unfold f_X8_wrong f_X8_refusalFor
      rw [e8]; rfl
    · unfold f_X9_wrong
      rw [e9]; rfl
theorem p_with_step {P : Nat → Bool} {k : Nat} (hk : k < 7) : f_X8_with (nI (setOf k P)) (nI k) (if P k then 1 else 0) = some (nI (setOf (k + 1) P)) := by
  have key1 : ∀ k, k < 7 → ∀ a, a < 2 ^ k → a ||| 2 ^ k = a + 2 ^ k := by decide +kernel
  have key0 : ∀ k, k < 7 → ∀ a, a < 2 ^ k → a - (a &&& 2 ^ k) = a := by decide +kernel
  have hlt := setOf_lt P k
  have h7 : 2 ^ k ≤ 2 ^ 7 := Nat.pow_le_pow_right (by decide) (by omega)
  by_cases hp : P k = true
  · rw [if_pos hp, p_with1 _ (by omega) k hk, key1 k hk _ hlt, setOf, if_pos hp]
  · rw [if_neg hp, p_with0 _ (by omega) k hk, key0 k hk _ hlt, setOf, if_neg hp, Nat.add_zero]
theorem p_favd_loop {n f : Nat} (hn : n ≤ 7) (hf : f < 7) {fav : Nat → Int32} {lk : Nat → Nat → Bool} (hF : ∀ b, b < 7 → fav b = nI (fset n lk b)) (hlk : ∀ a b, n ≤ a ∨ n ≤ b → lk a b = false) : ∀ (m k F : Nat), k + m = 7 → m < F → f_X7_favouredOf_b4 fav F (nI f) (nI (setOf k (fun b => lk f b))) (nI k) = some (nI (setOf 7 (fun b => lk f b))) := by
  intro m
  induction m with
  | zero =>
    intro k F hk hF'
    obtain ⟨F, rfl⟩ : ∃ F', F = F' + 1 := ⟨F - 1, by omega⟩
    obtain rfl : k = 7 := by omega
    show f_X7_favouredOf_s4 fav (f_X7_favouredOf_b4 fav F) (nI f) (nI (setOf 7 (fun b => lk f b))) (nI 7) = some (nI (setOf 7 (fun b => lk f b)))
    unfold f_X7_favouredOf_s4
    rw [if_pos (show (7 : Int32) ≤ nI 7 by decide)]
  | succ m ih =>
    intro k F hk hF'
    obtain ⟨F, rfl⟩ : ∃ F', F = F' + 1 := ⟨F - 1, by omega⟩
    show f_X7_favouredOf_s4 _ (f_X7_favouredOf_b4 fav F) _ _ _ = _
    unfold f_X7_favouredOf_s4
    have hlt : fset n lk k < 128 := setOf_lt7 _ hn
    have hbit : (fset n lk k).testBit f = lk f k := by
      rw [setOf_bit]
      by_cases q : f < n
      · simp [q]
      · rw [hlk f k (Or.inl (by omega))]; simp
    rw [if_neg (show ¬ (7 : Int32) ≤ nI k from nI_ge (a := k) (b := 7) (by omega) (by omega)), gd_nI (by omega) (by omega), cl (by omega), hF k (by omega), p_holds _ (by omega) f (by omega), bs, hbit, p_with_step (P := fun b => lk f b) (by omega), bs, nI_1]
    exact ih (k + 1) F (by omega) (by omega)
theorem setOf_more {P : Nat → Bool} {n : Nat} : ∀ m, (∀ k, n ≤ k → P k = false) → setOf (n + m) P = setOf n P := by
  intro m
  induction m with
  | zero => intro _; rfl
  | succ m ih =>
    intro h
    show setOf (n + m + 1) P = _
    rw [setOf, ih h, h (n + m) (by omega)]
    simp
theorem p_favouredOf {n f : Nat} (hn : n ≤ 7) (hf : f < n) {fav : Nat → Int32} {lk : Nat → Nat → Bool} (hF : ∀ b, b < 7 → fav b = nI (fset n lk b)) (hlk : ∀ a b, n ≤ a ∨ n ≤ b → lk a b = false) : f_X7_favouredOf fav (nI f) = some (nI (lset n lk f)) := by
  have := p_favd_loop hn (by omega) hF hlk (f := f) 7 0 5000 (by omega) (by omega)
  rw [show (7 : Nat) = n + (7 - n) by omega, setOf_more (7 - n) (fun k hk => hlk f k (Or.inr hk))] at this
  exact this
theorem q_family {n q c d : Nat} {wn cd h : Nat → Nat} {lt lk : Nat → Nat → Bool} {fam quota cc date frozen : Int32} {kinds warmths prices tfav colds told healths fav st : Nat → Int32} (T : TOR n q c wn cd lt fam quota cc kinds warmths prices tfav colds told) (Wi : WIR n d h lk date frozen healths fav st) (x y : Int32) : ∃ r, f_X8_family fam kinds warmths prices date frozen healths fav x y = some r ∧ f_X9_family told st x y = some r := by
  obtain ⟨hn, hq, hc, ⟨rfl, rfl, rfl⟩, ⟨t0, t1, t2⟩, tk, tw, tp, tc, hw, hkd, hcs, hcd, hF, hL⟩ := T
  obtain ⟨hd, rfl, s14, rfl, hh, hs, hb, hz, wF, wL, hlk⟩ := Wi
  unfold f_X8_family f_X9_family
  rcases p_fam hn t0 x with ⟨f, hf, rfl, e8, e9⟩ | ⟨-, e8, e9⟩
  · have hf7 : f < 7 := by omega
    rw [e8, e9, bs, bs, if_neg (show ¬ (1 : Int32) = 0 by decide), if_neg (show ¬ (1 : Int32) = 0 by decide)]
    simp only [l3, l7, l10, l17]
    rw [gd_nI hf7 (by omega), gd_nI hf7 (by omega), gd_nI hf7 (by omega), gd_nI hf7 (by omega), gd_nI (by omega : 3 + f < 37) (by omega), gd_nI (by omega : 10 + f < 37) (by omega), gd_nI (by omega : 17 + f < 37) (by omega), gd_nI (by omega : f < 15) (by omega), gd_nI (by omega : 7 + f < 15) (by omega)]
    rw [cl (by omega : f < 2 ^ 31), cl (by omega : 3 + f < 2 ^ 31), cl (by omega : 10 + f < 2 ^ 31), cl (by omega : 17 + f < 2 ^ 31), cl (by omega : 7 + f < 2 ^ 31)]
    rw [tk f hf7, tw f hf7, tp f hf7, hs f hf7, hh f hf7, wL f hf7, p_favouredOf hn hf wF hlk, p_doneUp7 hn hf (wF f hf7), p_isFrozen9 hf7 (hs f hf7) (hb f), p_doneUp9 hn hf t0 hs hb (fun a ha => wL a (by omega)), p_night7 d (by omega), p_night9 (by omega) s14]
    simp only [bs]
    rw [p_weightOf kinds _ hf7, p_weightBy told _ hf7, tk f hf7]
    simp only [bs]
    by_cases y0 : y = 0
    · rw [if_pos y0, if_pos y0]; exact ⟨_, rfl, rfl⟩
    rw [if_neg y0, if_neg y0]
    by_cases y1 : y = 1
    · rw [if_pos y1, if_pos y1]; exact ⟨_, rfl, rfl⟩
    rw [if_neg y1, if_neg y1]
    by_cases y2 : y = 2
    · rw [if_pos y2, if_pos y2]; exact ⟨_, rfl, rfl⟩
    rw [if_neg y2, if_neg y2]
    by_cases y3 : y = 3
    · rw [if_pos y3, if_pos y3]; exact ⟨_, rfl, rfl⟩
    rw [if_neg y3, if_neg y3]
    by_cases y4 : y = 4
    · rw [if_pos y4, if_pos y4]; exact ⟨_, rfl, rfl⟩
    rw [if_neg y4, if_neg y4]
    by_cases y5 : y = 5
    · rw [if_pos y5, if_pos y5]
      by_cases hz' : h f = 0
      · rw [if_pos hz', if_pos hz', if_neg (by decide)]; exact ⟨_, rfl, rfl⟩
      · rw [if_neg hz', if_neg hz', if_pos rfl]; exact ⟨_, rfl, rfl⟩
    rw [if_neg y5, if_neg y5]
    by_cases y6 : y = 6
    · simp only [if_pos y6]; exact ⟨_, rfl, rfl⟩
    simp only [if_neg y6]
    exact ⟨_, rfl, rfl⟩
  · rw [e8, e9]
    exact ⟨_, rfl, rfl⟩
theorem ex_same {α : Type} {X Y : Option α} (h : X = Y) (h2 : X.isSome = true) : ∃ r, X = some r ∧ Y = some r := by
  subst h
  cases X with
  | none => cases h2
  | some r => exact ⟨r, rfl, rfl⟩
theorem q_as {n q c : Nat} {wn cd : Nat → Nat} {lt : Nat → Nat → Bool} {fam quota cc : Int32} {kinds warmths prices tfav colds told : Nat → Int32} (T : TOR n q c wn cd lt fam quota cc kinds warmths prices tfav colds told) (x y : Int32) : ∃ r, f_X8_as fam kinds x y = some r ∧ f_X9_as told x y = some r := by
  obtain ⟨hn, hq, hc, ⟨rfl, rfl, rfl⟩, ⟨t0, t1, t2⟩, tk, tw, tp, tc, hw, hkd, hcs, hcd, hF, hL⟩ := T
  unfold f_X8_as f_X9_as
  rcases p_fam hn t0 x with ⟨f, hf, rfl, e8, e9⟩ | ⟨-, e8, e9⟩
  · have hf7 : f < 7 := by omega
    obtain ⟨kd, hkd4, hkk⟩ := hkd f hf
    have hin : f_X9_in (Int32.toInt64 y) 0 4 = some (if 0 ≤ y ∧ y ≤ 4 then 1 else 0) := p_in32 y 0 4
    rw [e8, e9, bs, bs, if_neg (show ¬ (1 : Int32) = 0 by decide), if_neg (show ¬ (1 : Int32) = 0 by decide), hin, bs]
    by_cases hy : 0 ≤ y ∧ y ≤ 4
    · have h1 : ¬ y < 0 := fun q => by have a := Int32.lt_iff_toInt_lt.mp q; have b := Int32.le_iff_toInt_le.mp hy.1; omega
      obtain ⟨j, hj, rfl⟩ := nI_of2 (x := y) (M := 4) (n := 4) rfl h1 hy.2
      rw [if_pos hy, if_neg (show ¬ (1 : Int32) = 0 by decide), if_neg h1, if_pos hy.2, l3, gd_nI hf7 (by omega), gd_nI (by omega : 3 + f < 37) (by omega), cl (by omega : f < 2 ^ 31), cl (by omega : 3 + f < 2 ^ 31), tk f hf7, hkk]
      have w0 : f_X5_weightOf kinds (nI f) 0 = some (wtI (nI kd) false) := by rw [← hkk]; exact p_weightOf kinds false hf7
      have w1 : f_X5_weightOf kinds (nI f) 1 = some (wtI (nI kd) true) := by rw [← hkk]; exact p_weightOf kinds true hf7
      have v0 : f_X9_weightBy told (nI f) 0 = some (wtI (nI kd) false) := by rw [← hkk, ← tk f hf7]; exact p_weightBy told false hf7
      have v1 : f_X9_weightBy told (nI f) 1 = some (wtI (nI kd) true) := by rw [← hkk, ← tk f hf7]; exact p_weightBy told true hf7
      unfold f_X9_as_b49 f_X9_as_b61 f_X9_as_b65 f_X9_as_b66
      rw [w0, w1, v0, v1]
      simp only [bs]
      simp only [if_neg (show ¬ (1 : Int32) = 0 by decide), if_true]
      have key : ∀ kd, kd < 4 → ∀ j, j ≤ 4 → ((f_X8_isUnder (nI kd) (nI j)).bind fun y4 => if y4 = 0 then some (-4) else some (10 * wtI (nI kd) false + wtI (nI kd) true)) = (if nI j = 0 then some (10 * wtI (nI kd) false + wtI (nI kd) true) else if nI j = 1 then if nI kd < 3 then some (10 * wtI (nI kd) false + wtI (nI kd) true) else if nI j ≤ 1 then some (-4) else if nI kd = nI j - 1 then some (10 * wtI (nI kd) false + wtI (nI kd) true) else some (-4) else if nI j ≤ 1 then some (-4) else if nI kd = nI j - 1 then some (10 * wtI (nI kd) false + wtI (nI kd) true) else some (-4)) ∧ ((f_X8_isUnder (nI kd) (nI j)).bind fun y4 => if y4 = 0 then some (-4) else some (10 * wtI (nI kd) false + wtI (nI kd) true)).isSome = true := by decide +kernel
      exact ex_same (key kd hkd4 j hj).1 (key kd hkd4 j hj).2
    · rw [if_neg hy, if_pos rfl]
      refine ⟨-3, ?_, rfl⟩
      by_cases h1 : y < 0
      · rw [if_pos h1]
      · rw [if_neg h1, if_neg]
        intro h2
        refine hy ⟨Int32.le_iff_toInt_le.mpr ?_, h2⟩
        have : ¬ y.toInt < (0 : Int32).toInt := fun q => h1 (Int32.lt_iff_toInt_lt.mpr q)
        omega
  · rw [e8, e9]
    exact ⟨_, rfl, rfl⟩
def hsum (h : Nat → Nat) : Nat → Nat
  | 0 => 0
  | k + 1 => hsum h k + h k
theorem p_hoa7_loop {healths : Nat → Int32} {h : Nat → Nat} (hh : ∀ k, k < 7 → healths k = nI (h k)) : ∀ (m k F : Nat), k + m = 7 → m < F → f_X7_healthOfAll_b4 healths F (nI (hsum h k)) (nI k) = some (nI (hsum h 7)) := by
  intro m
  induction m with
  | zero =>
    intro k F hk hF'
    obtain ⟨F, rfl⟩ : ∃ F', F = F' + 1 := ⟨F - 1, by omega⟩
    obtain rfl : k = 7 := by omega
    show f_X7_healthOfAll_s4 healths (f_X7_healthOfAll_b4 healths F) (nI (hsum h 7)) (nI 7) = some (nI (hsum h 7))
    unfold f_X7_healthOfAll_s4
    rw [if_pos (show (7 : Int32) ≤ nI 7 by decide)]
  | succ m ih =>
    intro k F hk hF'
    obtain ⟨F, rfl⟩ : ∃ F', F = F' + 1 := ⟨F - 1, by omega⟩
    show f_X7_healthOfAll_s4 healths (f_X7_healthOfAll_b4 healths F) (nI (hsum h k)) (nI k) = _
    unfold f_X7_healthOfAll_s4
    rw [if_neg (show ¬ (7 : Int32) ≤ nI k from nI_ge (a := k) (b := 7) (by omega) (by omega)), gd_nI (by omega) (by omega), cl (by omega), hh k (by omega), nI_add, nI_1]
    exact ih (k + 1) F (by omega) (by omega)
theorem p_hoa7 {healths : Nat → Int32} {h : Nat → Nat} (hh : ∀ k, k < 7 → healths k = nI (h k)) : f_X7_healthOfAll healths = some (nI (hsum h 7)) := p_hoa7_loop hh 7 0 5000 (by omega) (by omega)
theorem hsum_more {h : Nat → Nat} {n : Nat} (hz : ∀ k, n ≤ k → h k = 0) : ∀ m, hsum h (n + m) = hsum h n := by
  intro m
  induction m with
  | zero => rfl
  | succ m ih =>
    show hsum h (n + m + 1) = _
    rw [hsum, ih, hz (n + m) (by omega)]
    rfl
theorem p_hoa9_loop {n : Nat} (hn : n ≤ 7) {told st : Nat → Int32} {h : Nat → Nat} (t0 : told 0 = nI n) (hs : ∀ k, k < 7 → st k = nI (h k)) : ∀ (m k F : Nat), k + m = n → m < F → f_X9_healthOfAll_b4 told st F (nI (hsum h k)) (nI k) = some (nI (hsum h n)) := by
  intro m
  induction m with
  | zero =>
    intro k F hk hF'
    obtain ⟨F, rfl⟩ : ∃ F', F = F' + 1 := ⟨F - 1, by omega⟩
    obtain rfl : k = n := by omega
    show f_X9_healthOfAll_s4 told st (f_X9_healthOfAll_b4 told st F) (nI (hsum h k)) (nI k) = _
    unfold f_X9_healthOfAll_s4
    rw [t0, if_pos (nI_le (Nat.le_refl _) (by omega))]
  | succ m ih =>
    intro k F hk hF'
    obtain ⟨F, rfl⟩ : ∃ F', F = F' + 1 := ⟨F - 1, by omega⟩
    show f_X9_healthOfAll_s4 told st (f_X9_healthOfAll_b4 told st F) (nI (hsum h k)) (nI k) = _
    unfold f_X9_healthOfAll_s4
    rw [t0, if_neg (nI_ge (by omega) (by omega)), gd_nI (by omega) (by omega), cl (by omega), hs k (by omega), nI_add, nI_1]
    exact ih (k + 1) F (by omega) (by omega)
theorem p_hoa9 {n : Nat} (hn : n ≤ 7) {told st : Nat → Int32} {h : Nat → Nat} (t0 : told 0 = nI n) (hs : ∀ k, k < 7 → st k = nI (h k)) (hz : ∀ k, n ≤ k → h k = 0) : f_X9_healthOfAll told st = some (nI (hsum h 7)) := by
  rw [show (7 : Nat) = n + (7 - n) by omega, hsum_more hz]
  exact p_hoa9_loop hn t0 hs n 0 5000 (by omega) (by omega)
theorem q_count {n q c d : Nat} {wn cd h : Nat → Nat} {lt lk : Nat → Nat → Bool} {fam quota cc date frozen : Int32} {kinds warmths prices tfav colds told healths fav st : Nat → Int32} (T : TOR n q c wn cd lt fam quota cc kinds warmths prices tfav colds told) (Wi : WIR n d h lk date frozen healths fav st) (vs ps tl : Int32) (x : Int32) : ∃ r, f_X8_count fam quota cc date frozen colds healths vs ps tl x = some r ∧ f_X9_count tl ps vs told st x = some r := by
  obtain ⟨hn, hq, hc, ⟨rfl, rfl, rfl⟩, ⟨t0, t1, t2⟩, tk, tw, tp, tc, hw, hkd, hcs, hcd, hF, hL⟩ := T
  obtain ⟨hd, rfl, s14, rfl, hh, hs, hb, hz, wF, wL, hlk⟩ := Wi
  unfold f_X8_count f_X9_count
  rw [p_cold5 hc (by omega) hcs, p_cold9 hc (by omega) t2 s14 (fun j hj => by rw [tc j (by omega)]; exact hcs j hj), p_hoa7 hh, p_hoa9 hn t0 hs hz, p_frozen hn t0 hs hb, t0, t1, t2, s14]
  simp only [bs]
  repeat' split
  all_goals exact ⟨_, rfl, rfl⟩
