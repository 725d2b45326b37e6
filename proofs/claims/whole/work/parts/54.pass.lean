theorem i_add_neg (a b : Nat) : nI a + -(nI b) = nI a - nI b := (Int32.sub_eq_add_neg _ _).symm
theorem p_chM {a b k zz : Nat} (ha : a ≤ 20) (hb : b < 2 ^ 20) (hk : k < 7) (hz : zz < 128) {healths : Nat → Int32} (hh : healths k = nI a) : f_X7_changeHealth (nI zz) healths (nI k) (-(nI b)) = some (if a ≤ b then nI (zz ||| 2 ^ k) else nI (zz - (zz &&& 2 ^ k)), upd healths k (nI (a - b))) := by
  have ht : (nI a - nI b).toInt = (a : Int) - b := pk_sub_toInt (by omega) (by omega)
  have e20 : (20 : Int32).toInt = 20 := rfl
  have e0 : (0 : Int32).toInt = 0 := rfl
  have n20 : ¬ (20 : Int32) < nI a - nI b := fun q => by have := Int32.lt_iff_toInt_lt.mp q; omega
  unfold f_X7_changeHealth f_X7_changeHealth_b40
  rw [gd_nI hk (by omega), gd_nI hk (by omega), cl (by omega), hh, i_add_neg, if_neg n20]
  by_cases hab : a ≤ b
  · have h1 : ¬ (0 : Int32) < nI a - nI b := fun q => by have := Int32.lt_iff_toInt_lt.mp q; omega
    rw [if_neg h1, if_pos hab, p_with1 zz hz k hk, bs, show a - b = 0 by omega, nI_0]
    by_cases h2 : nI a - nI b < 0
    · rw [if_pos h2]
    · rw [if_neg h2]
      have : a = b := by
        have : ¬ (nI a - nI b).toInt < 0 := fun q => h2 (Int32.lt_iff_toInt_lt.mpr (by omega))
        omega
      subst this
      rw [pk_sub (Nat.le_refl _), Nat.sub_self, nI_0]
  · have h1 : (0 : Int32) < nI a - nI b := Int32.lt_iff_toInt_lt.mpr (by omega)
    have h2 : ¬ nI a - nI b < 0 := fun q => by have := Int32.lt_iff_toInt_lt.mp q; omega
    rw [if_pos h1, if_neg hab, p_with0 zz hz k hk, bs, if_neg h2, pk_sub (by omega)]
theorem p_chP {a k zz : Nat} (ha : a ≤ 20) (hk : k < 7) (hz : zz < 128) {healths : Nat → Int32} (hh : healths k = nI a) : f_X7_changeHealth (nI zz) healths (nI k) 2 = some (nI (zz - (zz &&& 2 ^ k)), upd healths k (nI (min (a + 2) 20))) := by
  unfold f_X7_changeHealth f_X7_changeHealth_b40
  rw [gd_nI hk (by omega), gd_nI hk (by omega), cl (by omega), hh]
  have key : ∀ a, a ≤ 20 → (if (20 : Int32) < nI a + 2 then (20 : Int32) else nI a + 2) = nI (min (a + 2) 20) ∧ (0 : Int32) < nI (min (a + 2) 20) ∧ ¬ nI (min (a + 2) 20) < 0 := by decide +kernel
  obtain ⟨k1, k2, k3⟩ := key a ha
  rw [k1, if_pos k2, if_neg k3, p_with0 zz hz k hk, bs]
def hmix (h h' : Nat → Nat) (k : Nat) (j : Nat) : Nat := if j < k then h' j else h j
theorem hmix_upd {h h' : Nat → Nat} {k : Nat} {healths : Nat → Int32} (hh : ∀ j, j < 7 → healths j = nI (hmix h h' k j)) : ∀ j, j < 7 → upd healths k (nI (h' k)) j = nI (hmix h h' (k + 1) j) := by
  intro j hj
  by_cases e : j = k
  · subst e
    rw [pk_us]
    unfold hmix
    rw [if_pos (by omega)]
  · rw [pk_un e, hh j hj]
    unfold hmix
    by_cases q : j < k
    · rw [if_pos q, if_pos (by omega)]
    · rw [if_neg q, if_neg (by omega)]
theorem zmix1 {n k : Nat} {h h' : Nat → Nat} (hk : k < n) (hz : h' k = 0) : zset n (hmix h h' k) ||| 2 ^ k = zset n (hmix h h' (k + 1)) := by
  have h2 : 2 ^ k < 2 ^ n := Nat.pow_lt_pow_right (by decide) hk
  apply setOf_ext (n := n) (Nat.or_lt_two_pow (setOf_lt _ n) h2) (setOf_lt _ n)
  intro j hj
  rw [Nat.testBit_or, setOf_bit, setOf_bit, Nat.testBit_two_pow]
  unfold hmix
  by_cases e : j = k
  · subst e; simp [hj, hz]
  · have e' : ¬ k = j := fun q => e q.symm
    by_cases q : j < k
    · have q2 : j < k + 1 := by omega
      simp [hj, e', q, q2]
    · have q2 : ¬ j < k + 1 := by omega
      simp [hj, e', q, q2]
theorem zmix0 {n k : Nat} {h h' : Nat → Nat} (hk : k < n) (h0 : h k ≠ 0) (hz : h' k ≠ 0) : zset n (hmix h h' k) - (zset n (hmix h h' k) &&& 2 ^ k) = zset n (hmix h h' (k + 1)) := by
  have hb : zset n (hmix h h' k) &&& 2 ^ k = 0 := by
    apply Nat.eq_of_testBit_eq
    intro j
    rw [Nat.testBit_and, setOf_bit, Nat.testBit_two_pow]
    by_cases e : k = j
    · subst e
      unfold hmix
      simp [h0]
    · simp [e]
  rw [hb, Nat.sub_zero]
  apply setOf_congr
  intro j hj
  unfold hmix
  by_cases e : j = k
  · subst e
    have a1 : (h j == 0) = false := by simp [h0]
    have a2 : (h' j == 0) = false := by simp [hz]
    simp [a1, a2]
  · by_cases q : j < k
    · have q2 : j < k + 1 := by omega
      simp [q, q2]
    · have q2 : ¬ j < k + 1 := by omega
      simp [q, q2]
theorem zmixF {n k : Nat} {h h' : Nat → Nat} (hz : h k = 0) (hz' : h' k = 0) : zset n (hmix h h' k) = zset n (hmix h h' (k + 1)) := by
  apply setOf_congr
  intro j hj
  unfold hmix
  by_cases e : j = k
  · subst e; simp [hz, hz']
  · by_cases q : j < k
    · have q2 : j < k + 1 := by omega
      simp [q, q2]
    · have q2 : ¬ j < k + 1 := by omega
      simp [q, q2]
theorem hmixF {h h' : Nat → Nat} {k : Nat} (hz : h k = 0) (hz' : h' k = 0) (j : Nat) : hmix h h' k j = hmix h h' (k + 1) j := by
  unfold hmix
  by_cases e : j = k
  · subst e; simp [hz, hz']
  · by_cases q : j < k
    · have q2 : j < k + 1 := by omega
      simp [q, q2]
    · have q2 : ¬ j < k + 1 := by omega
      simp [q, q2]
def wrI (w : Option Nat) : Int32 := match w with
  | none => -1
  | some f => nI f
theorem wrI_eq {w : Option Nat} {k : Nat} (hk : k < 7) (hw : ∀ f, w = some f → f < 7) : (nI k = wrI w) ↔ w = some k := by
  cases w with
  | none =>
    simp only [wrI]
    constructor
    · intro q
      have := congrArg Int32.toInt q
      rw [nI_toI (by omega)] at this
      have e : (-1 : Int32).toInt = -1 := by decide
      omega
    · intro q; cases q
  | some f =>
    have hf := hw f rfl
    simp only [wrI]
    rw [nI_eq (by omega) (by omega)]
    constructor
    · intro q; rw [q]
    · intro q; exact (Option.some.inj q).symm
theorem p_pass_loop {n q c cold warm d : Nat} {w : Option Nat} (hn : n ≤ 7) (hc : cold ≤ 40) (hwm : warm ≤ 63) (hw : ∀ f, w = some f → f < 7) {h : Nat → Nat} (hb : ∀ k, h k ≤ 20) {colds fav kinds warmths : Nat → Int32} {cc : Int32} :
    ∀ (m k F : Nat) (healths : Nat → Int32), k + m = n → m < F → (∀ j, j < 7 → healths j = nI (hmix h (dayH cold w warm h) k j)) →
      ∃ healths', f_X7_passDay_b56 (nI n) (nI q) cc colds fav kinds warmths F (nI (zset n h)) (nI cold) (wrI w) (nI cold - nI warm) (nI k) (nI d) (nI (zset n (hmix h (dayH cold w warm h) k))) healths = some (nI (zset n (hmix h (dayH cold w warm h) n)) &&& (nI (zset n h) ^^^ (-1)), nI d + 1, nI (zset n (hmix h (dayH cold w warm h) n)), healths') ∧ ∀ j, j < 7 → healths' j = nI (hmix h (dayH cold w warm h) n j) := by
  intro m
  induction m with
  | zero =>
    intro k F healths hk hF hh
    obtain ⟨F, rfl⟩ : ∃ F', F = F' + 1 := ⟨F - 1, by omega⟩
    obtain rfl : k = n := by omega
    refine ⟨healths, ?_, hh⟩
    show f_X7_passDay_s56 _ _ _ _ _ _ _ _ _ _ _ _ _ _ _ _ = _
    unfold f_X7_passDay_s56
    rw [if_pos (nI_le (Nat.le_refl _) (by omega))]
  | succ m ih =>
    intro k F healths hk hF hh
    obtain ⟨F, rfl⟩ : ∃ F', F = F' + 1 := ⟨F - 1, by omega⟩
    have hz128 : zset n h < 128 := setOf_lt7 _ hn
    have hzz : zset n (hmix h (dayH cold w warm h) k) < 128 := setOf_lt7 _ hn
    have hhk : healths k = nI (h k) := by rw [hh k (by omega)]; unfold hmix; rw [if_neg (by omega)]
    show ∃ healths', f_X7_passDay_s56 _ _ _ _ _ _ _ (f_X7_passDay_b56 (nI n) (nI q) cc colds fav kinds warmths F) _ _ _ _ _ _ _ _ = _ ∧ _
    unfold f_X7_passDay_s56 f_X7_passDay_b99 f_X7_passDay_b116
    rw [if_neg (nI_ge (by omega) (by omega)), p_holds _ (by omega) k (by omega), bs, setOf_bit, nI_1]
    have hkn : k < n := by omega
    have hb5 : nI cold / 5 = nI (cold / 5) := pk_div (d := 5) (by omega) (by omega) (by omega)
    by_cases hz : h k = 0
    · have hd0 : dayH cold w warm h k = 0 := by unfold dayH; rw [if_pos hz]
      have e1 : (decide (k < n) && (h k == 0)) = true := by simp [hkn, hz]
      rw [e1, if_pos rfl, if_neg (by decide), zmixF hz hd0]
      exact ih (k + 1) F healths (by omega) (by omega) (fun j hj => by rw [hh j hj, hmixF hz hd0])
    · have e1 : ¬ (decide (k < n) && (h k == 0)) = true := by simp [hz]
      rw [if_neg e1, if_pos rfl]
      by_cases hwk : w = some k
      · rw [if_pos ((wrI_eq (by omega) hw).mpr hwk)]
        by_cases hcw : cold ≤ warm
        · have hd1 : dayH cold w warm h k = min (h k + 2) 20 := by unfold dayH; rw [if_neg hz, if_pos hwk, if_pos hcw]
          have hle : nI cold - nI warm ≤ 0 := Int32.le_iff_toInt_le.mpr (by rw [pk_sub_toInt (by omega) (by omega)]; show (cold : Int) - warm ≤ 0; omega)
          rw [if_pos hle, p_chP (hb k) (by omega) hzz hhk]
          show ∃ healths', f_X7_passDay_b56 _ _ _ _ _ _ _ F _ _ _ _ (nI (k + 1)) _ _ _ = _ ∧ _
          rw [zmix0 hkn hz (by rw [hd1]; omega), ← hd1]
          exact ih (k + 1) F _ (by omega) (by omega) (hmix_upd hh)
        · have hd1 : dayH cold w warm h k = h k - (cold - warm) := by unfold dayH; rw [if_neg hz, if_pos hwk, if_neg hcw]
          have hle : ¬ nI cold - nI warm ≤ 0 := fun q => by
            have := Int32.le_iff_toInt_le.mp q
            rw [pk_sub_toInt (by omega) (by omega)] at this
            have e : (0 : Int32).toInt = 0 := rfl
            omega
          rw [if_neg hle, pk_sub (a := cold) (b := warm) (by omega), p_chM (hb k) (by omega) (by omega) hzz hhk]
          show ∃ healths', f_X7_passDay_b56 _ _ _ _ _ _ _ F _ _ _ _ (nI (k + 1)) _ _ _ = _ ∧ _
          rw [← hd1, ← pk_sub (a := cold) (b := warm) (by omega)]
          by_cases h0 : h k ≤ cold - warm
          · rw [if_pos h0, zmix1 hkn (by rw [hd1]; omega)]
            exact ih (k + 1) F _ (by omega) (by omega) (hmix_upd hh)
          · rw [if_neg h0, zmix0 hkn hz (by rw [hd1]; omega)]
            exact ih (k + 1) F _ (by omega) (by omega) (hmix_upd hh)
      · have hd1 : dayH cold w warm h k = h k - cold / 5 := by unfold dayH; rw [if_neg hz, if_neg hwk]
        rw [if_neg (fun q => hwk ((wrI_eq (by omega) hw).mp q)), hb5, p_chM (hb k) (by omega) (by omega) hzz hhk]
        show ∃ healths', f_X7_passDay_b56 _ _ _ _ _ _ _ F _ _ _ _ (nI (k + 1)) _ _ _ = _ ∧ _
        rw [← hd1]
        by_cases h0 : h k ≤ cold / 5
        · rw [if_pos h0, zmix1 hkn (by rw [hd1]; omega)]
          exact ih (k + 1) F _ (by omega) (by omega) (hmix_upd hh)
        · rw [if_neg h0, zmix0 hkn hz (by rw [hd1]; omega)]
          exact ih (k + 1) F _ (by omega) (by omega) (hmix_upd hh)
theorem dayH_le {cold warm : Nat} {w : Option Nat} {h : Nat → Nat} (hb : ∀ k, h k ≤ 20) (k : Nat) : dayH cold w warm h k ≤ 20 := by
  unfold dayH
  have := hb k
  split
  · omega
  · split
    · split
      · omega
      · omega
    · omega
theorem hmix_all {n cold warm : Nat} {w : Option Nat} {h : Nat → Nat} (hz : ∀ k, n ≤ k → h k = 0) (j : Nat) : hmix h (dayH cold w warm h) n j = dayH cold w warm h j := by
  unfold hmix
  by_cases q : j < n
  · rw [if_pos q]
  · rw [if_neg q]
    unfold dayH
    rw [if_pos (hz j (by omega)), hz j (by omega)]
abbrev nset (n : Nat) (h h' : Nat → Nat) : Nat := setOf n (fun k => !(h k == 0) && (h' k == 0))
theorem nset_eq {n : Nat} (hn : n ≤ 7) (h h' : Nat → Nat) : nI (zset n h') &&& (nI (zset n h) ^^^ (-1)) = nI (nset n h h') := by
  rw [p_andn hn (setOf_lt _ n)]
  congr 1
  apply setOf_ext (n := n) (Nat.and_lt_two_pow _ (setOf_lt _ n)) (setOf_lt _ n)
  intro j hj
  rw [Nat.testBit_and, setOf_bit, setOf_bit, setOf_bit]
  simp [hj, Bool.and_comm]
theorem zset_congr {n : Nat} {h h' : Nat → Nat} (e : ∀ j, h j = h' j) : zset n h = zset n h' := setOf_congr (fun k _ => by rw [e k])
def wearer (kinds : Nat → Int32) (q n d : Nat) (h : Nat → Nat) (lk : Nat → Nat → Bool) (a : Option Nat) : Option Nat := match a with
  | none => none
  | some f => if worn kinds q n d h lk f then some f else none
def warmW (wn : Nat → Nat) (n : Nat) (h : Nat → Nat) (lk : Nat → Nat → Bool) (w : Option Nat) : Nat := match w with
  | none => 0
  | some f => warmN wn n (dset n h lk f)
def nextH (kinds : Nat → Int32) (wn cd : Nat → Nat) (n q c d : Nat) (h : Nat → Nat) (lk : Nat → Nat → Bool) (a : Option Nat) : Nat → Nat :=
  dayH (coldN c cd d) (wearer kinds q n d h lk a) (warmW wn n h lk (wearer kinds q n d h lk a)) h
theorem cold_le {c d : Nat} {cd : Nat → Nat} (hcd : ∀ j, cd j ≤ 40) : coldN c cd d ≤ 40 := by
  unfold coldN
  split
  · decide
  · exact hcd _
theorem warm0 (w : Nat → Nat) : ∀ n, nsum (wmN w 0) 0 n = 0 := by
  intro n
  induction n with
  | zero => rfl
  | succ n ih => rw [nsum, ih]; simp
theorem p_passDay {n q c d : Nat} (hn : n ≤ 7) (hq : 1 ≤ q ∧ q ≤ 20) (hc : c ≤ 6) (hd : d < 1024) {a : Option Nat} (ha : ∀ f, a = some f → f < n) {kinds warmths colds fav healths : Nat → Int32} {wn cd h : Nat → Nat} {lk : Nat → Nat → Bool}
    (hw : ∀ k, k < n → warmths k = nI (wn k) ∧ wn k ≤ 9) (hcd : ∀ j, cd j ≤ 40) (hcs : ∀ j, j < c → colds j = nI (cd j)) (hb : ∀ k, h k ≤ 20) (hz : ∀ k, n ≤ k → h k = 0) (hh : ∀ k, k < 7 → healths k = nI (h k)) (hF : ∀ b, b < n → fav b = nI (fset n lk b)) :
    ∃ healths', f_X7_passDay (nI d) (nI (zset n h)) (nI n) (nI q) (nI c) colds fav kinds warmths healths (wrI a) = some (nI (nset n h (nextH kinds wn cd n q c d h lk a)), nI (d + 1), nI (zset n (nextH kinds wn cd n q c d h lk a)), healths') ∧ ∀ k, k < 7 → healths' k = nI (nextH kinds wn cd n q c d h lk a k) := by
  have hcl : coldN c cd d ≤ 40 := cold_le hcd
  have hdu : ∃ s, s < 128 ∧ f_X7_doneUpFor (nI (zset n h)) fav (wrI a) = some (nI s) ∧ f_X5_isCarriedBy (nI n) (nI q) kinds (nI s) (b2 (d % 2 == 1)) = some (b2 (wearer kinds q n d h lk a).isSome) ∧ (∀ f, wearer kinds q n d h lk a = some f → s = dset n h lk f ∧ f < n) := by
    cases a with
    | none =>
      refine ⟨0, by omega, ?_, p_carried0 hn hq, fun f e => by cases e⟩
      show f_X7_doneUpFor _ _ (-1) = _
      rw [p_doneUpN, nI_0]
    | some f =>
      have hf := ha f rfl
      have hlt : dset n h lk f < 128 := setOf_lt7 _ hn
      by_cases hz : h f = 0
      · have e : wearer kinds q n d h lk (some f) = none := by unfold wearer worn; simp [hz]
        refine ⟨0, by omega, ?_, ?_, fun g eg => by rw [e] at eg; cases eg⟩
        · show f_X7_doneUpFor _ _ (nI f) = _
          rw [p_doneUp7 hn hf (hF f hf), if_pos hz, nI_0]
        · rw [p_carried0 hn hq, e]
          rfl
      · refine ⟨dset n h lk f, hlt, ?_, ?_, ?_⟩
        · show f_X7_doneUpFor _ _ (nI f) = _
          rw [p_doneUp7 hn hf (hF f hf), if_neg hz]
        · rw [p_carriedBy hn (by omega)]
          unfold wearer worn carr
          by_cases hq' : wSet kinds n d (dset n h lk f) < nI q <;> simp [hz, hq']
        · intro g eg
          unfold wearer at eg
          by_cases hwn : worn kinds q n d h lk f = true
          · simp only [hwn, if_true] at eg
            have := Option.some.inj eg
            subst this
            exact ⟨rfl, hf⟩
          · simp only [hwn] at eg
            cases eg
  obtain ⟨s, hs, d1, d2, d3⟩ := hdu
  have hwm : f_X5_warmthOfSet (nI n) warmths (nI s) = some (nI (warmN wn n s)) := by rw [p_warmthOfSet hn hs, (warm_nI hw).1]
  have hw63 : warmN wn n s ≤ 63 := by have := (warm_nI (s := s) hw).2; omega
  have hnx : nextH kinds wn cd n q c d h lk a = dayH (coldN c cd d) (wearer kinds q n d h lk a) (warmN wn n s) h := by
    unfold nextH
    cases hx : wearer kinds q n d h lk a with
    | none => funext k; unfold dayH; simp
    | some f => rw [(d3 f hx).1]; rfl
  unfold f_X7_passDay
  rw [p_cold5 hc (by omega) hcs, bs, d1, bs, p_night7 d hd, bs, d2, bs]
  have fin : ∀ w, w = wearer kinds q n d h lk a → ∃ healths', f_X7_passDay_b40 (nI n) (nI q) (nI c) colds fav kinds warmths (nI (zset n h)) (nI (coldN c cd d)) (nI s) (wrI w) (nI d) (nI (zset n h)) healths = some (nI (nset n h (nextH kinds wn cd n q c d h lk a)), nI (d + 1), nI (zset n (nextH kinds wn cd n q c d h lk a)), healths') ∧ ∀ k, k < 7 → healths' k = nI (nextH kinds wn cd n q c d h lk a k) := by
    intro w hw'
    have w3 : ∀ f, w = some f → f < 7 := fun f e => by have := (d3 f (hw'.symm.trans e)).2; omega
    obtain ⟨healths', e1, e2⟩ := p_pass_loop (n := n) (q := q) (c := c) (d := d) (cold := coldN c cd d) (warm := warmN wn n s) (w := w) hn hcl hw63 w3 hb (colds := colds) (fav := fav) (kinds := kinds) (warmths := warmths) (cc := nI c) n 0 5000 healths (by omega) (by omega) (fun j hj => by rw [hh j hj]; unfold hmix; rw [if_neg (by omega)])
    have hnx : nextH kinds wn cd n q c d h lk a = dayH (coldN c cd d) w (warmN wn n s) h := by rw [hnx, hw']
    refine ⟨healths', ?_, fun k hk => by rw [e2 k hk, hmix_all hz, hnx]⟩
    have z0 : zset n (hmix h (dayH (coldN c cd d) w (warmN wn n s) h) 0) = zset n h := zset_congr (fun j => by unfold hmix; rw [if_neg (by omega)])
    have z1 : zset n (hmix h (dayH (coldN c cd d) w (warmN wn n s) h) n) = zset n (nextH kinds wn cd n q c d h lk a) := zset_congr (fun j => by rw [hmix_all hz, hnx])
    rw [z0, z1, nset_eq hn, nI_0, nI_1] at e1
    unfold f_X7_passDay_b40
    rw [hwm, bs]
    exact e1
  by_cases hsm : (wearer kinds q n d h lk a).isSome = true
  · rw [hsm]
    have ew : wrI a = wrI (wearer kinds q n d h lk a) := by
      cases a with
      | none => cases hsm
      | some f =>
        unfold wearer at hsm ⊢
        by_cases hwn : worn kinds q n d h lk f = true
        · simp [hwn]
        · simp [hwn] at hsm
    show ∃ healths', (if (1 : Int32) = 0 then _ else _) = _ ∧ _
    rw [if_neg (by decide), ew]
    exact fin _ rfl
  · have e0 : wearer kinds q n d h lk a = none := by
      cases hx : wearer kinds q n d h lk a with
      | none => rfl
      | some f => rw [hx] at hsm; simp at hsm
    rw [e0]
    show ∃ healths', (if (0 : Int32) = 0 then _ else _) = _ ∧ _
    rw [if_pos rfl]
    exact fin none e0.symm
