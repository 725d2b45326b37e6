def numR (len : Nat) (t : Nat → Nat) (p : Nat) (lo hi : Int32) : Int32 := if tokK len t p = 2 ∧ lo ≤ nI (tokV len t p) ∧ nI (tokV len t p) ≤ hi then nI (tokV len t p) else -1
theorem isD_d {len j : Nat} {t : Nat → Nat} (h : isD len t j = true) : j < len ∧ 48 ≤ t j ∧ t j ≤ 57 := by unfold isD at h; simp at h; exact h
theorem isS_d {len j : Nat} {t : Nat → Nat} (h : isS len t j = true) : j < len ∧ 97 ≤ t j ∧ t j ≤ 122 := by unfold isS at h; simp at h; exact h
theorem isD_S {len j : Nat} {t : Nat → Nat} (h : isD len t j = true) : isS len t j = false := by
  cases hs : isS len t j with
  | false => rfl
  | true =>
    have a := isD_d h
    have b := isS_d hs
    omega
theorem tokK2 {len p : Nat} {t : Nat → Nat} : tokK len t p = 2 ↔ isD len t (tokS len t p) = true := by
  unfold tokK
  constructor
  · intro h
    split at h
    · omega
    · split at h
      · assumption
      · split at h <;> omega
  · intro h
    rw [isD_S h, h]
    rfl
theorem tokV_b {len p : Nat} {t : Nat → Nat} (hb : ∀ j, j < len → t j ≤ 255) : tokV len t p ≤ 999 := by
  unfold tokV
  split
  · omega
  · split
    · rename_i h1 h2
      have := isD_d h2
      split
      · omega
      · split
        · rename_i h3 h4
          have h5 : isD len t (tokS len t p + 1) = true := by
            have e : tokE len t p = scan (isD len t) (len - tokS len t p) (tokS len t p) := by unfold tokE; rw [isD_S h2, h2]; rfl
            exact scan_in (isD len t) _ _ _ (Nat.le_succ _) (by rw [← e, h4]; omega)
          have := isD_d h5
          omega
        · omega
    · split
      · rename_i h3
        have := hb _ h3
        omega
      · omega
theorem tokK_b (len : Nat) (t : Nat → Nat) (p : Nat) : tokK len t p ≤ 3 := by
  unfold tokK
  split
  · omega
  · split
    · omega
    · split <;> omega
theorem p_num9 {len p : Nat} {t : Nat → Nat} {text : Nat → Int32} (hl : len ≤ 160) (ht : ∀ j, j < len → text j = nI (t j)) (hb : ∀ j, j < len → t j ≤ 255) (hp : p ≤ len) (tk v bg lo hi : Int32) : f_X9_number (nI len) (nI p) tk v bg text lo hi = some (numR len t p lo hi, nI (tokE len t p), nI (tokK len t p), nI (tokV len t p), nI (tokS len t p)) := by
  unfold f_X9_number numR
  have hk := tokK_b len t p
  rw [p_next9 hl ht hb hp, bd4s, p_in32, bs]
  by_cases h2 : tokK len t p = 2
  · rw [if_pos (show nI (tokK len t p) = 2 by rw [h2]; rfl)]
    by_cases h3 : lo ≤ nI (tokV len t p) ∧ nI (tokV len t p) ≤ hi
    · rw [if_pos h3, if_neg (show ¬ (1 : Int32) = 0 by decide), if_pos ⟨h2, h3⟩]
    · rw [if_neg h3, if_pos rfl, if_neg (fun q => h3 q.2)]
  · rw [if_neg (show ¬ nI (tokK len t p) = 2 from fun q => h2 ((nI_eq (a := tokK len t p) (b := 2) (by omega) (by omega)).mp q)), if_neg (fun q => h2 q.1)]
theorem p_num8s {len r e s v : Nat} {t : Nat → Nat} {letters : Nat → Int32} (hl : len ≤ 160) (ht : ∀ j, j < len → letters j = nI (t j)) (hr : r < e) (he : e ≤ len) (hd : 48 ≤ t r) (lo hi : Int32) (F : Nat) : f_X2_numberHere_b34 (nI s) (nI e) (nI len) letters (F + 1) lo hi (nI v) (nI r) = f_X2_numberHere_b34 (nI s) (nI e) (nI len) letters F lo hi (nI (10 * v + (t r - 48))) (nI (r + 1)) := by
  show f_X2_numberHere_s34 (nI s) (nI e) (nI len) letters (f_X2_numberHere_b34 (nI s) (nI e) (nI len) letters F) lo hi (nI v) (nI r) = _
  unfold f_X2_numberHere_s34
  rw [if_neg (nI_ge hr (by omega)), p_at hl ht (by omega), bs, if_pos (by omega), p_dig hd, nI_1]
theorem p_num8e {len e s : Nat} {letters : Nat → Int32} (he : e ≤ 200) (lo hi v : Int32) (F : Nat) : f_X2_numberHere_b34 (nI s) (nI e) (nI len) letters (F + 1) lo hi v (nI e) = some (if lo ≤ v ∧ v ≤ hi then v else -1) := by
  show f_X2_numberHere_s34 (nI s) (nI e) (nI len) letters (f_X2_numberHere_b34 (nI s) (nI e) (nI len) letters F) lo hi v (nI e) = _
  unfold f_X2_numberHere_s34
  rw [if_pos (nI_le (Nat.le_refl _) (by omega))]
  by_cases h1 : v < lo
  · rw [if_pos h1, if_neg]
    intro q
    have a := Int32.lt_iff_toInt_lt.mp h1
    have b := Int32.le_iff_toInt_le.mp q.1
    omega
  · have h1' : lo ≤ v := Int32.le_iff_toInt_le.mpr (Int.not_lt.mp (fun q => h1 (Int32.lt_iff_toInt_lt.mpr q)))
    rw [if_neg h1]
    by_cases h2 : hi < v
    · rw [if_pos h2, if_neg]
      intro q
      have a := Int32.lt_iff_toInt_lt.mp h2
      have b := Int32.le_iff_toInt_le.mp q.2
      omega
    · have h2' : v ≤ hi := Int32.le_iff_toInt_le.mpr (Int.not_lt.mp (fun q => h2 (Int32.lt_iff_toInt_lt.mpr q)))
      rw [if_neg h2, if_pos ⟨h1', h2'⟩]
theorem p_num8 {len p : Nat} {t : Nat → Nat} {letters : Nat → Int32} (hl : len ≤ 160) (ht : ∀ j, j < len → letters j = nI (t j)) (hb : ∀ j, j < len → t j ≤ 255) (hp : p ≤ len) (lo hi : Int32) (hhi : ¬ nI 999 ≤ hi) : f_X2_numberHere (nI (tokS len t p)) (nI (tokE len t p)) (nI len) letters lo hi = some (numR len t p lo hi) := by
  have hts := tok_b (t := t) hp
  unfold f_X2_numberHere numR
  rw [p_digit8 hl ht hb (by omega), bs]
  cases hd : isD len t (tokS len t p) with
  | false =>
    have : ¬ tokK len t p = 2 := fun q => by rw [tokK2.mp q] at hd; cases hd
    rw [if_pos (show b2 false = 0 from rfl), if_neg (fun q => this q.1)]
  | true =>
    have hk : tokK len t p = 2 := tokK2.mpr hd
    have hdd := isD_d hd
    have eE : tokE len t p = scan (isD len t) (len - tokS len t p) (tokS len t p) := by unfold tokE; rw [isD_S hd, hd]; rfl
    have hge : tokS len t p + 1 ≤ tokE len t p := by
      obtain ⟨m, hm⟩ : ∃ m, len - tokS len t p = m + 1 := ⟨len - tokS len t p - 1, by omega⟩
      rw [eE, hm, scan, hd, if_pos rfl]
      exact (scan_b _ _ _).1
    have eV : tokV len t p = (if tokE len t p = tokS len t p + 1 then t (tokS len t p) - 48 else if tokE len t p = tokS len t p + 2 then 10 * (t (tokS len t p) - 48) + (t (tokS len t p + 1) - 48) else 999) := by unfold tokV; rw [isD_S hd, hd]; rfl
    rw [if_neg (show ¬ b2 true = 0 by decide), pk_sub (by omega)]
    have e0 : (0 : Int32) = nI 0 := nI_0.symm
    rcases (show tokE len t p = tokS len t p + 1 ∨ tokE len t p = tokS len t p + 2 ∨ tokS len t p + 3 ≤ tokE len t p by omega) with h1 | h1 | h1
    · rw [if_pos h1] at eV
      rw [if_pos (show nI (tokE len t p - tokS len t p) ≤ 2 from nI_le (a := tokE len t p - tokS len t p) (b := 2) (by omega) (by omega)), e0, p_num8s hl ht (by omega) (by omega) hdd.2.1 lo hi 4999, ← h1, p_num8e (by omega), show 10 * 0 + (t (tokS len t p) - 48) = t (tokS len t p) - 48 by omega, ← eV]
      by_cases h3 : lo ≤ nI (tokV len t p) ∧ nI (tokV len t p) ≤ hi
      · rw [if_pos h3, if_pos ⟨hk, h3⟩]
      · rw [if_neg h3, if_neg (fun q => h3 q.2)]
    · have h5 : isD len t (tokS len t p + 1) = true := scan_in (isD len t) (len - tokS len t p) (tokS len t p) _ (Nat.le_succ _) (by rw [← eE, h1]; omega)
      have hdd2 := isD_d h5
      rw [if_neg (by omega), if_pos h1] at eV
      rw [if_pos (show nI (tokE len t p - tokS len t p) ≤ 2 from nI_le (a := tokE len t p - tokS len t p) (b := 2) (by omega) (by omega)), e0, p_num8s hl ht (by omega) (by omega) hdd.2.1 lo hi 4999, p_num8s hl ht (by omega) (by omega) hdd2.2.1 lo hi 4998, show tokS len t p + 1 + 1 = tokE len t p by omega, p_num8e (by omega), show 10 * (10 * 0 + (t (tokS len t p) - 48)) + (t (tokS len t p + 1) - 48) = tokV len t p by rw [eV]; omega]
      by_cases h3 : lo ≤ nI (tokV len t p) ∧ nI (tokV len t p) ≤ hi
      · rw [if_pos h3, if_pos ⟨hk, h3⟩]
      · rw [if_neg h3, if_neg (fun q => h3 q.2)]
    · rw [if_neg (by omega), if_neg (by omega)] at eV
      rw [if_neg (show ¬ nI (tokE len t p - tokS len t p) ≤ 2 from nI_ge (a := 2) (b := tokE len t p - tokS len t p) (by omega) (by omega)), if_neg]
      intro q
      rw [eV] at q
      exact hhi q.2.2
def allB (P : Nat → Bool) : Nat → Bool
  | 0 => true
  | k + 1 => allB P k && P k
theorem allB_false {P : Nat → Bool} {k : Nat} (h : allB P k = false) : ∀ m, allB P (k + m) = false := by
  intro m
  induction m with
  | zero => exact h
  | succ m ih => show allB P (k + m + 1) = false; rw [allB, ih]; rfl
theorem allB_iff {P : Nat → Bool} : ∀ k, allB P k = true ↔ ∀ j, j < k → P j = true := by
  intro k
  induction k with
  | zero => exact ⟨fun _ j hj => absurd hj (Nat.not_lt_zero j), fun _ => rfl⟩
  | succ k ih =>
    rw [allB, Bool.and_eq_true, ih]
    constructor
    · intro h j hj
      by_cases e : j = k
      · rw [e]; exact h.2
      · exact h.1 j (by omega)
    · intro h
      exact ⟨fun j hj => h j (by omega), h k (by omega)⟩
def mW (t : Nat → Nat) (s e N : Nat) (g : Nat → Nat) : Bool := decide (e - s = N) && allB (fun j => decide (t (s + j) = g j)) N
theorem p_shr0 : ∀ N, N < 20 → (Int32.ofNat N >>> ((0 : Int32) &&& 31)) = nI N := by decide +kernel
theorem p_isWord {len s e N : Nat} {t g : Nat → Nat} {b letters : Nat → Int32} (hl : len ≤ 160) (ht : ∀ j, j < len → letters j = nI (t j)) (hb : ∀ j, j < len → t j ≤ 255) (hse : s ≤ e) (hel : e ≤ len) (hN : N < 20) (hg : ∀ j, j < N → chS b (nI j) = nI (g j) ∧ g j ≤ 255) : f_X2_isWord N b (nI s) (nI e) (nI len) letters = some (b2 (mW t s e N g)) := by
  unfold f_X2_isWord mW
  rw [pk_sub hse, p_shr0 N hN]
  by_cases h1 : e - s = N
  · rw [if_pos (by rw [h1]), decide_eq_true h1, Bool.true_and]
    have loop : ∀ (m k F : Nat), k + m = N → m < F → allB (fun j => decide (t (s + j) = g j)) k = true → f_X2_isWord_b20 N b (nI s) (nI e) (nI len) letters F (nI k) = some (b2 (allB (fun j => decide (t (s + j) = g j)) N)) := by
      intro m
      induction m with
      | zero =>
        intro k F hk hF ha
        obtain ⟨F, rfl⟩ : ∃ F', F = F' + 1 := ⟨F - 1, by omega⟩
        obtain rfl : k = N := by omega
        show f_X2_isWord_s20 k b (nI s) (nI e) (nI len) letters (f_X2_isWord_b20 k b (nI s) (nI e) (nI len) letters F) (nI k) = _
        unfold f_X2_isWord_s20
        rw [p_shr0 k hN, if_pos (nI_le (Nat.le_refl _) (by omega)), ha]
        rfl
      | succ m ih =>
        intro k F hk hF ha
        obtain ⟨F, rfl⟩ : ∃ F', F = F' + 1 := ⟨F - 1, by omega⟩
        obtain ⟨g1, g2⟩ := hg k (by omega)
        have htb := hb (s + k) (by omega)
        show f_X2_isWord_s20 N b (nI s) (nI e) (nI len) letters (f_X2_isWord_b20 N b (nI s) (nI e) (nI len) letters F) (nI k) = _
        unfold f_X2_isWord_s20
        rw [p_shr0 N hN, if_neg (nI_ge (by omega) (by omega)), nI_add, p_at hl ht (by omega), bs, if_pos (show s + k < len by omega), gd_nI (by omega) (by omega), g1, nI_1]
        have hs : allB (fun j => decide (t (s + j) = g j)) (k + 1) = decide (t (s + k) = g k) := by rw [allB, ha, Bool.true_and]
        by_cases h2 : t (s + k) = g k
        · rw [if_pos (by rw [h2])]
          exact ih (k + 1) F (by omega) (by omega) (by rw [hs]; simp [h2])
        · rw [if_neg (fun q => h2 ((nI_eq (by omega) (by omega)).mp q))]
          have := allB_false (P := fun j => decide (t (s + j) = g j)) (k := k + 1) (by rw [hs]; simp [h2]) m
          rw [show k + 1 + m = N by omega] at this
          rw [this]
          rfl
    exact loop N 0 5000 (by omega) (by omega) rfl
  · have hlt : e - s < 2 ^ 31 := by omega
    rw [if_neg (fun q => h1 ((nI_eq (by omega) (by omega)).mp q)), decide_eq_false h1]
    rfl
def valF (g : Nat → Nat) : Nat → Nat
  | 0 => 0
  | k + 1 => 27 * valF g k + (g k - 96)
theorem valF_inj {g h : Nat → Nat} : ∀ k l, (∀ j, j < k → 97 ≤ g j ∧ g j ≤ 122) → (∀ j, j < l → 97 ≤ h j ∧ h j ≤ 122) → valF g k = valF h l → k = l ∧ ∀ j, j < k → g j = h j := by
  intro k
  induction k with
  | zero =>
    intro l _ hh e
    cases l with
    | zero => exact ⟨rfl, fun j hj => absurd hj (Nat.not_lt_zero j)⟩
    | succ l =>
      have := hh l (by omega)
      rw [valF, valF] at e
      omega
  | succ k ih =>
    intro l hg hh e
    have g1 := hg k (by omega)
    cases l with
    | zero => rw [valF, valF] at e; omega
    | succ l =>
      have h1 := hh l (by omega)
      rw [valF, valF] at e
      obtain ⟨e1, e2⟩ := ih l (fun j hj => hg j (by omega)) (fun j hj => hh j (by omega)) (by omega)
      refine ⟨by omega, fun j hj => ?_⟩
      by_cases q : j = k
      · subst q; subst e1; omega
      · exact e2 j (by omega)
theorem valF_congr {g h : Nat → Nat} : ∀ k, (∀ j, j < k → g j = h j) → valF g k = valF h k := by
  intro k
  induction k with
  | zero => intro _; rfl
  | succ k ih => intro e; rw [valF, valF, ih (fun j hj => e j (by omega)), e k (by omega)]
theorem valF_lt {g : Nat → Nat} : ∀ k, (∀ j, j < k → g j ≤ 122) → valF g k < 27 ^ k := by
  intro k
  induction k with
  | zero => intro _; show (0 : Nat) < 1; decide
  | succ k ih =>
    intro h
    have a := ih (fun j hj => h j (by omega))
    have b := h k (by omega)
    rw [valF, Nat.pow_succ]
    omega
theorem p_let {v c : Nat} (h : 97 ≤ c) (hc : c ≤ 255) : (((27 * lN v) + (Int32.toInt64 (nI c))) - 97) + 1 = lN (27 * v + (c - 96)) := by
  rw [nI_l (by omega), show (27 : Int64) = lN 27 from rfl, lN_mul, lN_add, show (97 : Int64) = lN 97 from rfl, lN_sub (by omega), lN_1, show 27 * v + c - 97 + 1 = 27 * v + (c - 96) by omega]
theorem p_wordOf {len s e : Nat} {t : Nat → Nat} {text : Nat → Int32} (hl : len ≤ 160) (ht : ∀ j, j < len → text j = nI (t j)) (hs : ∀ j, s ≤ j → j < e → 97 ≤ t j ∧ t j ≤ 122) (hse : s ≤ e) (hel : e ≤ len) : f_X9_wordOf (nI e) 1 (nI s) text = some (lN (valF (fun j => t (s + j)) (min (e - s) 9))) := by
  have loop : ∀ (m k F : Nat), k + m = min (e - s) 9 → m < F → f_X9_wordOf_b7 (nI e) 1 (nI s) text F (lN (valF (fun j => t (s + j)) k)) (nI (s + k)) = some (lN (valF (fun j => t (s + j)) (min (e - s) 9))) := by
    have e9 : nI s + 9 = nI (s + 9) := nI_add s 9
    intro m
    induction m with
    | zero =>
      intro k F hk hF
      obtain ⟨F, rfl⟩ : ∃ F', F = F' + 1 := ⟨F - 1, by omega⟩
      have hk' : k = min (e - s) 9 := by omega
      show f_X9_wordOf_s7 (nI e) 1 (nI s) text (f_X9_wordOf_b7 (nI e) 1 (nI s) text F) _ _ = _
      unfold f_X9_wordOf_s7 f_X9_wordOf_b52
      rw [e9, if_pos rfl, ← hk']
      by_cases h1 : e ≤ s + k
      · rw [if_pos (nI_le h1 (by omega))]
      · rw [if_neg (nI_ge (by omega) (by omega)), if_pos (nI_le (by omega) (by omega))]
    | succ m ih =>
      intro k F hk hF
      obtain ⟨F, rfl⟩ : ∃ F', F = F' + 1 := ⟨F - 1, by omega⟩
      have hl2 := hs (s + k) (by omega) (by omega)
      show f_X9_wordOf_s7 (nI e) 1 (nI s) text (f_X9_wordOf_b7 (nI e) 1 (nI s) text F) _ _ = _
      unfold f_X9_wordOf_s7
      rw [e9, if_neg (nI_ge (by omega) (by omega)), if_neg (nI_ge (by omega) (by omega)), gd_nI (by omega) (by omega), cl (by omega), ht _ (by omega), p_let hl2.1 (by omega), nI_1]
      exact ih (k + 1) F (by omega) (by omega)
  unfold f_X9_wordOf
  have := loop (min (e - s) 9) 0 5000 (by omega) (by omega)
  rw [Nat.add_zero] at this
  exact this
theorem lg0 {x y : Int64} : lg_cmp x y = 0 ↔ x = y := by
  unfold lg_cmp
  by_cases h1 : x > y
  · rw [if_pos h1]
    constructor
    · intro q; exact absurd q (by decide)
    · intro q
      subst q
      have := Int64.lt_iff_toInt_lt.mp h1
      omega
  · rw [if_neg h1]
    by_cases h2 : x = y
    · rw [if_pos h2]; exact ⟨fun _ => h2, fun _ => rfl⟩
    · rw [if_neg h2]; exact ⟨fun q => absurd q (by decide), fun q => absurd q h2⟩
theorem p_match {s e N : Nat} {t g : Nat → Nat} (hs : ∀ j, s ≤ j → j < e → 97 ≤ t j ∧ t j ≤ 122) (hse : s ≤ e) (hN : N ≤ 8) (hg : ∀ j, j < N → 97 ≤ g j ∧ g j ≤ 122) : (lg_cmp (lN (valF (fun j => t (s + j)) (min (e - s) 9))) (lN (valF g N)) = 0) ↔ mW t s e N g = true := by
  have b1 := valF_lt (g := fun j => t (s + j)) (min (e - s) 9) (fun j hj => (hs (s + j) (by omega) (by omega)).2)
  have b2' := valF_lt (g := g) N (fun j hj => (hg j hj).2)
  have p1 : 27 ^ (min (e - s) 9) ≤ 27 ^ 9 := Nat.pow_le_pow_right (by decide) (by omega)
  have p2 : 27 ^ N ≤ 27 ^ 9 := Nat.pow_le_pow_right (by decide) (by omega)
  have p3 : 27 ^ 9 < 2 ^ 63 := by decide
  rw [lg0, pk_lEQ (by omega) (by omega)]
  unfold mW
  rw [Bool.and_eq_true, decide_eq_true_eq, allB_iff]
  constructor
  · intro q
    obtain ⟨e1, e2⟩ := valF_inj _ _ (fun j hj => hs (s + j) (by omega) (by omega)) hg q
    refine ⟨by omega, fun j hj => ?_⟩
    rw [decide_eq_true_eq]
    exact e2 j (by omega)
  · rintro ⟨e1, e2⟩
    have : min (e - s) 9 = N := by omega
    rw [this]
    exact valF_congr N (fun j hj => by simpa using e2 j hj)
