theorem p_b130 {told st : Nat → Int32} {K : Int32 → Int32 → Int32 → Int32 → Int32 → Int32 → (Nat → Int32) → Option (Int32 × (Nat → Int32))} {x1 x2 x3 x4 x5 s0 : Int32} {k v : Nat} (hk : k < 7) (hv : v ≤ 20) (hcl : (if 0 ≤ s0 then (if s0 ≤ 20 then s0 else 20) else 0) = nI v) : f_X9_oneDay_b130 told K x1 x2 x3 x4 x5 (nI k) s0 st = K x1 x2 x3 x4 (x5 ||| (if v = 0 then (1 : Int32) <<< (nI k &&& 31) else 0)) (nI (k + 1)) (upd st k (nI v)) := by
  have core : ∀ s, s = nI v → f_X9_oneDay_b161 told K x1 x2 x3 x4 x5 (nI k) s (nI k) st = K x1 x2 x3 x4 (x5 ||| (if v = 0 then (1 : Int32) <<< (nI k &&& 31) else 0)) (nI (k + 1)) (upd st k (nI v)) := by
    intro s hs
    subst hs
    unfold f_X9_oneDay_b161 f_X9_oneDay_b181 f_X9_oneDay_b184
    rw [gd_nI (by omega) (by omega), cl (by omega), p_isFrozen9 (h := fun _ => v) hk pk_us hv, bs, nI_1]
    by_cases h0 : v = 0
    · rw [if_pos h0, if_neg (by decide), if_pos h0]
    · rw [if_neg h0, if_pos rfl, if_neg h0]
  unfold f_X9_oneDay_b130
  by_cases h1 : 0 ≤ s0
  · rw [if_pos h1] at hcl ⊢
    by_cases h2 : s0 ≤ 20
    · rw [if_pos h2] at hcl ⊢
      exact core _ hcl
    · rw [if_neg h2] at hcl ⊢
      exact core _ hcl
  · rw [if_neg h1] at hcl ⊢
    exact core _ hcl
theorem clampM {a b : Nat} (ha : a ≤ 20) (hb : b < 2 ^ 20) : (if (0 : Int32) ≤ nI a - nI b then (if nI a - nI b ≤ 20 then nI a - nI b else 20) else 0) = nI (a - b) := by
  have ht : (nI a - nI b).toInt = (a : Int) - b := pk_sub_toInt (by omega) (by omega)
  have e20 : (20 : Int32).toInt = 20 := rfl
  have e0 : (0 : Int32).toInt = 0 := rfl
  have n20 : nI a - nI b ≤ 20 := Int32.le_iff_toInt_le.mpr (by omega)
  rw [if_pos n20]
  by_cases hab : b ≤ a
  · rw [if_pos (Int32.le_iff_toInt_le.mpr (by omega)), pk_sub hab]
  · rw [if_neg (fun q => by have := Int32.le_iff_toInt_le.mp q; omega), show a - b = 0 by omega, nI_0]
theorem clampP {a : Nat} (ha : a ≤ 20) : (if (0 : Int32) ≤ nI a + 2 then (if nI a + 2 ≤ 20 then nI a + 2 else 20) else 0) = nI (min (a + 2) 20) := by
  have key : ∀ a, a ≤ 20 → (if (0 : Int32) ≤ nI a + 2 then (if nI a + 2 ≤ 20 then nI a + 2 else 20) else 0) = nI (min (a + 2) 20) := by decide +kernel
  exact key a ha
theorem i_swap {a c w : Nat} (h : w ≤ c) : nI a - nI c + nI w = nI a - nI (c - w) := by
  have e : nI c = nI (c - w) + nI w := by rw [nI_add]; congr 1; omega
  rw [e]
  generalize nI a = x
  generalize nI (c - w) = y
  generalize nI w = z
  grind
theorem p_one_loop {n cold warm : Nat} {w : Option Nat} (hn : n ≤ 7) (hc : cold ≤ 40) (hwm : warm ≤ 63) {h : Nat → Nat} (hb : ∀ k, h k ≤ 20) {told st0 : Nat → Int32} (h0 : told 0 = nI n) {x1 x3 x4 : Int32} (hx : (w = none ∧ x3 = 0) ∨ (∃ f, w = some f ∧ f < 7 ∧ x3 = 1 ∧ x1 = nI f ∧ x4 = nI warm)) :
    ∀ (m k F : Nat) (st : Nat → Int32), k + m = n → m < F → (∀ j, j < 7 → st j = nI (hmix h (dayH cold w warm h) k j)) → (∀ j, 7 ≤ j → st j = st0 j) →
      ∃ st', f_X9_oneDay_b56 told F x1 (nI cold) x3 x4 (nI (setOf k (fun j => !(h j == 0) && (dayH cold w warm h j == 0)))) (nI k) st = some (nI (nset n h (dayH cold w warm h)), st') ∧ (∀ j, j < 7 → st' j = nI (hmix h (dayH cold w warm h) n j)) ∧ (∀ j, 7 ≤ j → j ≠ 14 → st' j = st0 j) ∧ st' 14 = st0 14 + 1 := by
  intro m
  induction m with
  | zero =>
    intro k F st hk hF hh hs0
    obtain ⟨F, rfl⟩ : ∃ F', F = F' + 1 := ⟨F - 1, by omega⟩
    obtain rfl : k = n := by omega
    refine ⟨upd st 14 (st 14 + 1), ?_, fun j hj => by rw [pk_un (by omega), hh j hj], fun j hj hne => by rw [pk_un hne, hs0 j hj], by rw [pk_us, hs0 14 (by omega)]⟩
    show f_X9_oneDay_s56 _ _ _ _ _ _ _ _ _ = _
    unfold f_X9_oneDay_s56
    rw [h0, if_pos (nI_le (Nat.le_refl _) (by omega))]
  | succ m ih =>
    intro k F st hk hF hh hs0
    obtain ⟨F, rfl⟩ : ∃ F', F = F' + 1 := ⟨F - 1, by omega⟩
    have hhk : st k = nI (h k) := by rw [hh k (by omega)]; unfold hmix; rw [if_neg (by omega)]
    have hkn : k < n := by omega
    have hb5 : nI cold / 5 = nI (cold / 5) := pk_div (d := 5) (by omega) (by omega) (by omega)
    show ∃ st', f_X9_oneDay_s56 _ (f_X9_oneDay_b56 told F) _ _ _ _ _ _ _ = _ ∧ _
    unfold f_X9_oneDay_s56 f_X9_oneDay_b119 f_X9_oneDay_b184
    rw [h0, if_neg (nI_ge (by omega) (by omega)), p_isFrozen9 (by omega) hhk (hb k), bs, nI_1]
    have step : ∀ v, dayH cold w warm h k = v → ¬ h k = 0 → v ≤ 20 → ∃ st', f_X9_oneDay_b56 told F x1 (nI cold) x3 x4 (nI (setOf k (fun j => !(h j == 0) && (dayH cold w warm h j == 0))) ||| (if v = 0 then (1 : Int32) <<< (nI k &&& 31) else 0)) (nI (k + 1)) (upd st k (nI v)) = some (nI (nset n h (dayH cold w warm h)), st') ∧ (∀ j, j < 7 → st' j = nI (hmix h (dayH cold w warm h) n j)) ∧ (∀ j, 7 ≤ j → j ≠ 14 → st' j = st0 j) ∧ st' 14 = st0 14 + 1 := by
      intro v hv hz _
      have e1 : nI (setOf k (fun j => !(h j == 0) && (dayH cold w warm h j == 0))) ||| (if v = 0 then (1 : Int32) <<< (nI k &&& 31) else 0) = nI (setOf (k + 1) (fun j => !(h j == 0) && (dayH cold w warm h j == 0))) := by
        by_cases h9 : v = 0
        · rw [if_pos h9, setOf_step1 (P := fun j => !(h j == 0) && (dayH cold w warm h j == 0)) (by omega) (by simp [hz, hv, h9])]
        · rw [if_neg h9, p_or0, setOf_step0 (P := fun j => !(h j == 0) && (dayH cold w warm h j == 0)) (by simp [hv, h9])]
      rw [e1]
      refine ih (k + 1) F _ (by omega) (by omega) ?_ (fun j hj => by rw [pk_un (by omega), hs0 j hj])
      rw [← hv]
      exact hmix_upd hh
    by_cases hz : h k = 0
    · have hd0 : dayH cold w warm h k = 0 := by unfold dayH; rw [if_pos hz]
      rw [if_pos hz, if_neg (by decide)]
      have e1 : setOf (k + 1) (fun j => !(h j == 0) && (dayH cold w warm h j == 0)) = setOf k (fun j => !(h j == 0) && (dayH cold w warm h j == 0)) := setOf_step0 (by simp [hz])
      rw [← e1]
      exact ih (k + 1) F st (by omega) (by omega) (fun j hj => by rw [hh j hj, hmixF hz hd0]) hs0
    · rw [if_neg hz, if_pos rfl, gd_nI (by omega) (by omega), gd_nI (by omega) (by omega), gd_nI (by omega) (by omega), cl (by omega), hhk]
      have oth : w ≠ some k → ∃ st', f_X9_oneDay_b130 told (f_X9_oneDay_b56 told F) x1 (nI cold) x3 x4 (nI (setOf k (fun j => !(h j == 0) && (dayH cold w warm h j == 0)))) (nI k) (nI (h k) - nI cold / 5) st = some (nI (nset n h (dayH cold w warm h)), st') ∧ (∀ j, j < 7 → st' j = nI (hmix h (dayH cold w warm h) n j)) ∧ (∀ j, 7 ≤ j → j ≠ 14 → st' j = st0 j) ∧ st' 14 = st0 14 + 1 := by
        intro hwk
        have hd1 : dayH cold w warm h k = h k - cold / 5 := by unfold dayH; rw [if_neg hz, if_neg hwk]
        have hbk := hb k
        rw [hb5, p_b130 (by omega) (by omega : h k - cold / 5 ≤ 20) (clampM (hb k) (by omega))]
        exact step _ hd1 hz (by omega)
      rcases hx with ⟨hw0, hx3⟩ | ⟨f, hwf, hf7, hx3, hx1, hx4⟩
      · rw [if_pos hx3]
        exact oth (by rw [hw0]; intro q; cases q)
      · rw [if_neg (by rw [hx3]; decide)]
        by_cases hkf : k = f
        · subst hkf
          rw [if_pos hx1.symm]
          have hbk := hb k
          by_cases hcw : cold ≤ warm
          · have hd1 : dayH cold w warm h k = min (h k + 2) 20 := by unfold dayH; rw [if_neg hz, if_pos hwf, if_pos hcw]
            rw [if_neg (by rw [hx4]; exact nI_nlt hcw (by omega)), p_b130 (by omega) (by omega : min (h k + 2) 20 ≤ 20) (clampP (hb k))]
            exact step _ hd1 hz (by omega)
          · have hd1 : dayH cold w warm h k = h k - (cold - warm) := by unfold dayH; rw [if_neg hz, if_pos hwf, if_neg hcw]
            rw [if_pos (by rw [hx4]; exact nI_lt (by omega) (by omega))]
            have e2 : nI (h k) - nI cold + x4 = nI (h k) - nI (cold - warm) := by rw [hx4]; exact i_swap (by omega)
            rw [e2, p_b130 (by omega) (by omega : h k - (cold - warm) ≤ 20) (clampM (hb k) (by omega))]
            exact step _ hd1 hz (by omega)
        · have hne : ¬ nI k = x1 := by rw [hx1, nI_eq (by omega) (by omega)]; exact hkf
          rw [if_neg hne]
          exact oth (by rw [hwf]; intro q; exact hkf (Option.some.inj q).symm)
theorem wrI_neg (a : Option Nat) (ha : ∀ f, a = some f → f < 7) : (wrI a < 0) ↔ a = none := by
  cases a with
  | none => exact ⟨fun _ => rfl, fun _ => by decide⟩
  | some f =>
    have := ha f rfl
    exact ⟨fun q => absurd q (nI_pos (by omega)), fun q => by cases q⟩
theorem p_oneDay {n q c d : Nat} (hn : n ≤ 7) (hc : c ≤ 6) (hd : d < 1024) {a : Option Nat} (ha : ∀ f, a = some f → f < n) {kinds told st : Nat → Int32} {wn cd h : Nat → Nat} {lk : Nat → Nat → Bool} (h0 : told 0 = nI n) (h1 : told 1 = nI q) (h2 : told 2 = nI c) (h14 : st 14 = nI d) (hk : ∀ f, f < 7 → told (3 + f) = kinds f)
    (hw : ∀ k, k < n → told (10 + k) = nI (wn k) ∧ wn k ≤ 9) (hcd : ∀ j, cd j ≤ 40) (hcs : ∀ j, j < c → told (31 + j) = nI (cd j)) (hb : ∀ k, h k ≤ 20) (hz : ∀ k, n ≤ k → h k = 0) (hs : ∀ k, k < 7 → st k = nI (h k)) (hl : ∀ b, b < n → st (7 + b) = nI (lset n lk b)) :
    ∃ st', f_X9_oneDay told st (wrI a) = some (nI (nset n h (nextH kinds wn cd n q c d h lk a)), st') ∧ (∀ k, k < 7 → st' k = nI (nextH kinds wn cd n q c d h lk a k)) ∧ (∀ j, 7 ≤ j → j ≠ 14 → st' j = st j) ∧ st' 14 = nI (d + 1) := by
  have hcl : coldN c cd d ≤ 40 := cold_le hcd
  have fin : ∀ (w : Option Nat) (x1 x3 x4 : Int32), w = wearer kinds q n d h lk a → ((w = none ∧ x3 = 0) ∨ (∃ f, w = some f ∧ f < 7 ∧ x3 = 1 ∧ x1 = nI f ∧ x4 = nI (warmW wn n h lk w))) → warmW wn n h lk w ≤ 63 → ∃ st', f_X9_oneDay_b48 told x1 (nI (coldN c cd d)) x3 x4 st = some (nI (nset n h (nextH kinds wn cd n q c d h lk a)), st') ∧ (∀ k, k < 7 → st' k = nI (nextH kinds wn cd n q c d h lk a k)) ∧ (∀ j, 7 ≤ j → j ≠ 14 → st' j = st j) ∧ st' 14 = nI (d + 1) := by
    intro w x1 x3 x4 hw' hx hwm
    obtain ⟨st', e1, e2, e3, e4⟩ := p_one_loop (w := w) (warm := warmW wn n h lk w) (st0 := st) hn hcl hwm hb h0 hx n 0 5000 st (by omega) (by omega) (fun j hj => by rw [hs j hj]; unfold hmix; rw [if_neg (by omega)]) (fun j _ => rfl)
    have hnx : nextH kinds wn cd n q c d h lk a = dayH (coldN c cd d) w (warmW wn n h lk w) h := by unfold nextH; rw [hw']
    refine ⟨st', ?_, fun k hk' => by rw [e2 k hk', hmix_all hz, hnx], e3, by rw [e4, h14, nI_1]⟩
    rw [hnx]
    exact e1
  unfold f_X9_oneDay
  rw [p_cold9 hc (by omega) h2 h14 hcs, bs]
  unfold f_X9_oneDay_b29 f_X9_oneDay_b30
  cases a with
  | none =>
    rw [if_pos ((wrI_neg none (fun f e => by cases e)).mpr rfl), if_pos rfl]
    exact fin none _ 0 0 rfl (Or.inl ⟨rfl, rfl⟩) (Nat.zero_le _)
  | some f =>
    have hf := ha f rfl
    rw [if_neg (fun q => by have := (wrI_neg (some f) (fun g e => by have := ha g e; omega)).mp q; cases this)]
    show ∃ st', (f_X9_isFrozen st (nI f)).bind _ = _ ∧ _
    rw [p_isFrozen9 (by omega) (hs f (by omega)) (hb f), bs]
    by_cases hz' : h f = 0
    · have e0 : wearer kinds q n d h lk (some f) = none := by unfold wearer worn; simp [hz']
      rw [if_pos hz', if_neg (by decide), if_pos rfl]
      exact fin none _ 0 0 e0.symm (Or.inl ⟨rfl, rfl⟩) (Nat.zero_le _)
    · rw [if_neg hz', if_pos rfl]
      show ∃ st', (f_X9_isCarried told st (nI f)).bind _ = _ ∧ _
      rw [p_carried9 hn hf hd h0 h1 h14 hk hs hb hl, bs]
      by_cases hcr : carr kinds q n d h lk f = true
      · have e0 : wearer kinds q n d h lk (some f) = some f := by unfold wearer worn; simp [hz', hcr]
        rw [hcr]
        show ∃ st', (if (1 : Int32) = 0 then _ else _) = _ ∧ _
        rw [if_neg (by decide)]
        show ∃ st', (if (1 : Int32) = 0 then _ else ((f_X9_doneUp told st (nI f)).bind _)) = _ ∧ _
        have hlt : dset n h lk f < 128 := setOf_lt7 _ hn
        rw [if_neg (by decide), p_doneUp9 hn hf h0 hs hb hl, bs, p_warmBy hn hlt told h0, bs, (warm_nI hw).1]
        exact fin (some f) _ 1 _ e0.symm (Or.inr ⟨f, rfl, by omega, rfl, rfl, rfl⟩) (by
          show warmN wn n (dset n h lk f) ≤ 63
          have := (warm_nI (s := dset n h lk f) hw).2
          omega)
      · have e0 : wearer kinds q n d h lk (some f) = none := by unfold wearer worn; simp [hz', hcr]
        have ec : carr kinds q n d h lk f = false := by simpa using hcr
        rw [ec]
        show ∃ st', (if (0 : Int32) = 0 then _ else _) = _ ∧ _
        rw [if_pos rfl, if_pos rfl]
        exact fin none _ 0 0 e0.symm (Or.inl ⟨rfl, rfl⟩) (Nat.zero_le _)
