def TXR (len : Nat) (t : Nat → Nat) (l8 : Int32) (letters : Nat → Int32) (l9 : Int32) (text : Nat → Int32) : Prop := len ≤ 160 ∧ l8 = nI len ∧ l9 = nI len ∧ ∀ j, j < len → t j ≤ 255 ∧ letters j = nI (t j) ∧ text j = nI (t j)
def isB (len : Nat) (t : Nat → Nat) (j : Nat) : Bool := decide (j < len) && decide (t j = 32)
def isS (len : Nat) (t : Nat → Nat) (j : Nat) : Bool := decide (j < len) && (decide (97 ≤ t j) && decide (t j ≤ 122))
def isD (len : Nat) (t : Nat → Nat) (j : Nat) : Bool := decide (j < len) && (decide (48 ≤ t j) && decide (t j ≤ 57))
def scan (P : Nat → Bool) : Nat → Nat → Nat
  | 0, p => p
  | m + 1, p => if P p then scan P m (p + 1) else p
theorem scan_b (P : Nat → Bool) : ∀ m p, p ≤ scan P m p ∧ scan P m p ≤ p + m := by
  intro m
  induction m with
  | zero => intro p; exact ⟨Nat.le_refl _, Nat.le_refl _⟩
  | succ m ih =>
    intro p
    rw [scan]
    split
    · have := ih (p + 1); omega
    · omega
theorem scan_in (P : Nat → Bool) : ∀ m p j, p ≤ j → j < scan P m p → P j = true := by
  intro m
  induction m with
  | zero => intro p j h1 h2; rw [scan] at h2; omega
  | succ m ih =>
    intro p j h1 h2
    rw [scan] at h2
    split at h2
    · rename_i hp
      by_cases e : j = p
      · rw [e]; exact hp
      · exact ih (p + 1) j (by omega) h2
    · omega
def tokS (len : Nat) (t : Nat → Nat) (p : Nat) : Nat := scan (isB len t) (len - p) p
def tokE (len : Nat) (t : Nat → Nat) (p : Nat) : Nat := if isS len t (tokS len t p) then scan (isS len t) (len - tokS len t p) (tokS len t p) else if isD len t (tokS len t p) then scan (isD len t) (len - tokS len t p) (tokS len t p) else if tokS len t p < len then tokS len t p + 1 else tokS len t p
def tokK (len : Nat) (t : Nat → Nat) (p : Nat) : Nat := if isS len t (tokS len t p) then 1 else if isD len t (tokS len t p) then 2 else if tokS len t p < len then 0 else 3
def tokV (len : Nat) (t : Nat → Nat) (p : Nat) : Nat := if isS len t (tokS len t p) then 0 else if isD len t (tokS len t p) then (if tokE len t p = tokS len t p + 1 then t (tokS len t p) - 48 else if tokE len t p = tokS len t p + 2 then 10 * (t (tokS len t p) - 48) + (t (tokS len t p + 1) - 48) else 999) else if tokS len t p < len then t (tokS len t p) else 0
theorem tok_b {len p : Nat} {t : Nat → Nat} (hp : p ≤ len) : p ≤ tokS len t p ∧ tokS len t p ≤ tokE len t p ∧ tokE len t p ≤ len := by
  have h1 := scan_b (isB len t) (len - p) p
  have h1' : p ≤ tokS len t p ∧ tokS len t p ≤ p + (len - p) := h1
  refine ⟨h1'.1, ?_, ?_⟩
  · unfold tokE
    split
    · exact (scan_b _ _ _).1
    · split
      · exact (scan_b _ _ _).1
      · split <;> omega
  · unfold tokE
    split
    · have := (scan_b (isS len t) (len - tokS len t p) (tokS len t p)).2; omega
    · split
      · have := (scan_b (isD len t) (len - tokS len t p) (tokS len t p)).2; omega
      · split <;> omega
theorem p_at {len : Nat} {t : Nat → Nat} {letters : Nat → Int32} (hl : len ≤ 160) (ht : ∀ j, j < len → letters j = nI (t j)) {j : Nat} (hj : j < 2 ^ 20) : f_X0_at (nI len) letters (nI j) = some (if j < len then nI (t j) else -1) := by
  unfold f_X0_at
  rw [if_neg (nI_pos (by omega))]
  by_cases h : j < len
  · rw [if_neg (nI_ge h (by omega)), gd_nI (by omega) (by omega), cl (by omega), ht j h, if_pos h]
  · rw [if_pos (nI_le (by omega) (by omega)), if_neg h]
theorem p_lat {len : Nat} {t : Nat → Nat} {text : Nat → Int32} (hl : len ≤ 160) (ht : ∀ j, j < len → text j = nI (t j)) {j : Nat} (hj : j < 2 ^ 20) : f_X9_letterAt (nI len) text (nI j) = some (if j < len then nI (t j) else 0) := by
  unfold f_X9_letterAt
  by_cases h : j < len
  · rw [if_neg (nI_ge h (by omega)), gd_nI (by omega) (by omega), cl (by omega), ht j h, if_pos h]
  · rw [if_pos (nI_le (by omega) (by omega)), if_neg h]
theorem p_small8 {len : Nat} {t : Nat → Nat} {letters : Nat → Int32} (hl : len ≤ 160) (ht : ∀ j, j < len → letters j = nI (t j)) (hb : ∀ j, j < len → t j ≤ 255) {j : Nat} (hj : j < 2 ^ 20) : f_X2_isSmall (nI len) letters (nI j) = some (b2 (isS len t j)) := by
  unfold f_X2_isSmall isS
  rw [p_at hl ht hj, bs, bs]
  by_cases h : j < len
  · have := hb j h
    rw [if_pos h]
    by_cases h1 : t j < 97
    · rw [if_pos (show nI (t j) < 97 from nI_lt (a := t j) (b := 97) h1 (by omega))]
      have : ¬ 97 ≤ t j := by omega
      simp [h, this, b2]
    · rw [if_neg (show ¬ nI (t j) < 97 from nI_nlt (a := t j) (b := 97) (by omega) (by omega))]
      have h97 : 97 ≤ t j := by omega
      by_cases h2 : 122 < t j
      · rw [if_pos (show (122 : Int32) < nI (t j) from nI_lt (a := 122) (b := t j) h2 (by omega))]
        have : ¬ t j ≤ 122 := by omega
        simp [h, this, b2]
      · rw [if_neg (show ¬ (122 : Int32) < nI (t j) from nI_nlt (a := 122) (b := t j) (by omega) (by omega))]
        have h122 : t j ≤ 122 := by omega
        simp [h, h97, h122, b2]
  · rw [if_neg h, if_pos (show (-1 : Int32) < 97 by decide)]
    simp [h, b2]
theorem p_digit8 {len : Nat} {t : Nat → Nat} {letters : Nat → Int32} (hl : len ≤ 160) (ht : ∀ j, j < len → letters j = nI (t j)) (hb : ∀ j, j < len → t j ≤ 255) {j : Nat} (hj : j < 2 ^ 20) : f_X2_isDigit (nI len) letters (nI j) = some (b2 (isD len t j)) := by
  unfold f_X2_isDigit isD
  rw [p_at hl ht hj, bs, bs]
  by_cases h : j < len
  · have := hb j h
    rw [if_pos h]
    by_cases h1 : t j < 48
    · rw [if_pos (show nI (t j) < 48 from nI_lt (a := t j) (b := 48) h1 (by omega))]
      have : ¬ 48 ≤ t j := by omega
      simp [h, this, b2]
    · rw [if_neg (show ¬ nI (t j) < 48 from nI_nlt (a := t j) (b := 48) (by omega) (by omega))]
      have h97 : 48 ≤ t j := by omega
      by_cases h2 : 57 < t j
      · rw [if_pos (show (57 : Int32) < nI (t j) from nI_lt (a := 57) (b := t j) h2 (by omega))]
        have : ¬ t j ≤ 57 := by omega
        simp [h, this, b2]
      · rw [if_neg (show ¬ (57 : Int32) < nI (t j) from nI_nlt (a := 57) (b := t j) (by omega) (by omega))]
        have h122 : t j ≤ 57 := by omega
        simp [h, h97, h122, b2]
  · rw [if_neg h, if_pos (show (-1 : Int32) < 48 by decide)]
    simp [h, b2]
theorem p_inN {lo hi c : Nat} (hh : hi < 1000) (hl : lo < 1000) (hc : c < 1000) : f_X9_in (Int32.toInt64 (nI c)) (Int32.toInt64 (nI lo)) (Int32.toInt64 (nI hi)) = some (b2 (decide (lo ≤ c) && decide (c ≤ hi))) := by
  rw [p_in32]
  have e1 : (nI lo ≤ nI c) ↔ lo ≤ c := nI_leI (by omega) (by omega)
  have e2 : (nI c ≤ nI hi) ↔ c ≤ hi := nI_leI (by omega) (by omega)
  by_cases h1 : lo ≤ c
  · by_cases h2 : c ≤ hi
    · rw [if_pos ⟨e1.mpr h1, e2.mpr h2⟩]; simp [h1, h2, b2]
    · rw [if_neg (fun q => h2 (e2.mp q.2))]; simp [h2, b2]
  · rw [if_neg (fun q => h1 (e1.mp q.1))]; simp [h1, b2]
theorem p_small9 {len : Nat} {t : Nat → Nat} (hb : ∀ j, j < len → t j ≤ 255) (j : Nat) : f_X9_in (Int32.toInt64 (if j < len then nI (t j) else 0)) 97 122 = some (b2 (isS len t j)) := by
  unfold isS
  by_cases h : j < len
  · have := hb j h
    rw [if_pos h]
    have e := p_inN (lo := 97) (hi := 122) (c := t j) (by omega) (by omega) (by omega)
    rw [decide_eq_true h, Bool.true_and]
    exact e
  · rw [if_neg h, decide_eq_false h]
    rfl
theorem p_digit9 {len : Nat} {t : Nat → Nat} (hb : ∀ j, j < len → t j ≤ 255) (j : Nat) : f_X9_in (Int32.toInt64 (if j < len then nI (t j) else 0)) 48 57 = some (b2 (isD len t j)) := by
  unfold isD
  by_cases h : j < len
  · have := hb j h
    rw [if_pos h]
    have e := p_inN (lo := 48) (hi := 57) (c := t j) (by omega) (by omega) (by omega)
    rw [decide_eq_true h, Bool.true_and]
    exact e
  · rw [if_neg h, decide_eq_false h]
    rfl
theorem p_n70 {len s : Nat} {t : Nat → Nat} {letters : Nat → Int32} (hl : len ≤ 160) (ht : ∀ j, j < len → letters j = nI (t j)) (hb : ∀ j, j < len → t j ≤ 255) : ∀ (m p F : Nat), p + m = len → m < F → f_X2_next_b70 (nI len) letters F (nI s) (nI p) = some (nI s, nI (scan (isS len t) m p)) := by
  intro m
  induction m with
  | zero =>
    intro p F hp hF
    obtain ⟨F, rfl⟩ : ∃ F', F = F' + 1 := ⟨F - 1, by omega⟩
    obtain rfl : p = len := by omega
    show f_X2_next_s70 (nI p) letters (f_X2_next_b70 (nI p) letters F) _ _ = _
    unfold f_X2_next_s70
    rw [if_pos (nI_le (Nat.le_refl _) (by omega))]
    rfl
  | succ m ih =>
    intro p F hp hF
    obtain ⟨F, rfl⟩ : ∃ F', F = F' + 1 := ⟨F - 1, by omega⟩
    show f_X2_next_s70 (nI len) letters (f_X2_next_b70 (nI len) letters F) _ _ = _
    unfold f_X2_next_s70
    rw [if_neg (nI_ge (by omega) (by omega)), p_small8 hl ht hb (by omega), bs, nI_1, scan]
    cases hs : isS len t p with
    | true => rw [if_neg (show ¬ b2 true = 0 by decide), if_pos rfl]; exact ih (p + 1) F (by omega) (by omega)
    | false => rw [if_pos (show b2 false = 0 from rfl), if_neg (by decide)]
theorem p_n119 {len s : Nat} {t : Nat → Nat} {letters : Nat → Int32} (hl : len ≤ 160) (ht : ∀ j, j < len → letters j = nI (t j)) (hb : ∀ j, j < len → t j ≤ 255) : ∀ (m p F : Nat), p + m = len → m < F → f_X2_next_b119 (nI len) letters F (nI s) (nI p) = some (nI s, nI (scan (isD len t) m p)) := by
  intro m
  induction m with
  | zero =>
    intro p F hp hF
    obtain ⟨F, rfl⟩ : ∃ F', F = F' + 1 := ⟨F - 1, by omega⟩
    obtain rfl : p = len := by omega
    show f_X2_next_s119 (nI p) letters (f_X2_next_b119 (nI p) letters F) _ _ = _
    unfold f_X2_next_s119
    rw [if_pos (nI_le (Nat.le_refl _) (by omega))]
    rfl
  | succ m ih =>
    intro p F hp hF
    obtain ⟨F, rfl⟩ : ∃ F', F = F' + 1 := ⟨F - 1, by omega⟩
    show f_X2_next_s119 (nI len) letters (f_X2_next_b119 (nI len) letters F) _ _ = _
    unfold f_X2_next_s119
    rw [if_neg (nI_ge (by omega) (by omega)), p_digit8 hl ht hb (by omega), bs, nI_1, scan]
    cases hs : isD len t p with
    | true => rw [if_neg (show ¬ b2 true = 0 by decide), if_pos rfl]; exact ih (p + 1) F (by omega) (by omega)
    | false => rw [if_pos (show b2 false = 0 from rfl), if_neg (by decide)]
theorem p_n51 {len p : Nat} {t : Nat → Nat} {letters : Nat → Int32} (hl : len ≤ 160) (ht : ∀ j, j < len → letters j = nI (t j)) (hb : ∀ j, j < len → t j ≤ 255) (hp : p ≤ len) (e0 : Int32) : f_X2_next_b51 (nI len) letters (nI (tokS len t p)) e0 = some (nI (tokS len t p), nI (tokE len t p)) := by
  have hts := tok_b (t := t) hp
  unfold f_X2_next_b51 tokE
  rw [p_small8 hl ht hb (by omega), bs, p_digit8 hl ht hb (by omega), bs]
  cases h1 : isS len t (tokS len t p) with
  | true =>
    rw [if_neg (show ¬ b2 true = 0 by decide), if_pos rfl]
    exact p_n70 hl ht hb (len - tokS len t p) (tokS len t p) 5000 (by omega) (by omega)
  | false =>
    rw [if_pos (show b2 false = 0 from rfl), if_neg (show ¬ (false = true) by decide)]
    cases h2 : isD len t (tokS len t p) with
    | true =>
      rw [if_neg (show ¬ b2 true = 0 by decide), if_pos rfl]
      exact p_n119 hl ht hb (len - tokS len t p) (tokS len t p) 5000 (by omega) (by omega)
    | false =>
      rw [if_pos (show b2 false = 0 from rfl), if_neg (show ¬ (false = true) by decide)]
      by_cases h3 : tokS len t p < len
      · rw [if_neg (nI_ge h3 (by omega)), if_pos h3, nI_1]
      · rw [if_pos (nI_le (by omega) (by omega)), if_neg h3]
theorem p_next8 {len p : Nat} {t : Nat → Nat} {letters : Nat → Int32} (hl : len ≤ 160) (ht : ∀ j, j < len → letters j = nI (t j)) (hb : ∀ j, j < len → t j ≤ 255) (hp : p ≤ len) (s0 : Int32) : f_X2_next s0 (nI p) (nI len) letters = some (nI (tokS len t p), nI (tokE len t p)) := by
  have loop : ∀ (m r F : Nat), r + m = len → m < F → f_X2_next_b8 (nI len) letters F (nI r) (nI p) = f_X2_next_b51 (nI len) letters (nI (scan (isB len t) m r)) (nI p) := by
    intro m
    induction m with
    | zero =>
      intro r F hr hF
      obtain ⟨F, rfl⟩ : ∃ F', F = F' + 1 := ⟨F - 1, by omega⟩
      show f_X2_next_s8 (nI len) letters (f_X2_next_b8 (nI len) letters F) (nI r) (nI p) = _
      unfold f_X2_next_s8
      rw [if_pos (nI_le (show len ≤ r by omega) (by omega))]
      rfl
    | succ m ih =>
      intro r F hr hF
      obtain ⟨F, rfl⟩ : ∃ F', F = F' + 1 := ⟨F - 1, by omega⟩
      show f_X2_next_s8 (nI len) letters (f_X2_next_b8 (nI len) letters F) (nI r) (nI p) = _
      unfold f_X2_next_s8
      have hrl : r < len := by omega
      have := hb r hrl
      rw [if_neg (nI_ge hrl (by omega)), p_at hl ht (by omega), bs, if_pos hrl, nI_1, scan]
      unfold isB
      by_cases h : t r = 32
      · rw [if_pos (show nI (t r) = 32 by rw [h]; rfl), if_pos (by simp [h, hrl])]
        exact ih (r + 1) F (by omega) (by omega)
      · rw [if_neg (show ¬ nI (t r) = 32 from fun q => h ((nI_eq (a := t r) (b := 32) (by omega) (by omega)).mp q)), if_neg (by simp [h])]
  unfold f_X2_next
  rw [loop (len - p) p 5000 (by omega) (by omega)]
  exact p_n51 hl ht hb hp _
theorem p_t59 {len : Nat} {t : Nat → Nat} {text : Nat → Int32} (hl : len ≤ 160) (ht : ∀ j, j < len → text j = nI (t j)) (hb : ∀ j, j < len → t j ≤ 255) (v bg : Int32) : ∀ (m p F tk : Nat), p + m = len → m < F → tk ≤ 1 → f_X9_nextToken_b59 (nI len) text F (nI p) (nI tk) v bg = f_X9_nextToken_b106 (nI len) text 5000 (nI (scan (isS len t) m p)) (nI (if isS len t p then 1 else tk)) v bg := by
  intro m
  induction m with
  | zero =>
    intro p F tk hp hF htk
    obtain ⟨F, rfl⟩ : ∃ F', F = F' + 1 := ⟨F - 1, by omega⟩
    have hs : isS len t p = false := by unfold isS; rw [decide_eq_false (by omega)]; rfl
    show f_X9_nextToken_s59 (nI len) text (f_X9_nextToken_b59 (nI len) text F) (nI p) (nI tk) v bg = _
    unfold f_X9_nextToken_s59
    rw [if_neg (show ¬ (2 : Int32) ≤ nI tk from nI_ge (a := tk) (b := 2) (by omega) (by omega)), p_lat hl ht (by omega), bs, p_small9 hb p, bs, hs]
    rfl
  | succ m ih =>
    intro p F tk hp hF htk
    obtain ⟨F, rfl⟩ : ∃ F', F = F' + 1 := ⟨F - 1, by omega⟩
    show f_X9_nextToken_s59 (nI len) text (f_X9_nextToken_b59 (nI len) text F) (nI p) (nI tk) v bg = _
    unfold f_X9_nextToken_s59
    rw [if_neg (show ¬ (2 : Int32) ≤ nI tk from nI_ge (a := tk) (b := 2) (by omega) (by omega)), p_lat hl ht (by omega), bs, p_small9 hb p, bs, nI_1, scan]
    cases hs : isS len t p with
    | true =>
      rw [if_neg (show ¬ b2 true = 0 by decide), if_pos rfl, if_pos rfl]
      have := ih (p + 1) F 1 (by omega) (by omega) (by omega)
      rw [show (if isS len t (p + 1) = true then 1 else 1) = 1 by split <;> rfl] at this
      exact this
    | false => rw [if_pos (show b2 false = 0 from rfl), if_neg (by decide), if_neg (by decide)]
theorem p_t106d {len : Nat} {t : Nat → Nat} {text : Nat → Int32} (hl : len ≤ 160) (ht : ∀ j, j < len → text j = nI (t j)) (hb : ∀ j, j < len → t j ≤ 255) (bg : Int32) : ∀ (m p F : Nat) (v : Int32), p + m = len → m < F → ∃ v', f_X9_nextToken_b106 (nI len) text F (nI p) 2 v bg = f_X9_nextToken_b193 (nI len) text (nI (scan (isD len t) m p)) 2 v' bg ∧ (isD len t p = false → v' = v) := by
  intro m
  induction m with
  | zero =>
    intro p F v hp hF
    obtain ⟨F, rfl⟩ : ∃ F', F = F' + 1 := ⟨F - 1, by omega⟩
    have hs : isD len t p = false := by unfold isD; rw [decide_eq_false (by omega)]; rfl
    refine ⟨v, ?_, fun _ => rfl⟩
    show f_X9_nextToken_s106 (nI len) text (f_X9_nextToken_b106 (nI len) text F) (nI p) 2 v bg = _
    unfold f_X9_nextToken_s106
    rw [if_neg (show ¬ (2 : Int32) = 1 by decide), p_lat hl ht (by omega), bs, p_digit9 hb p, bs, hs]
    rfl
  | succ m ih =>
    intro p F v hp hF
    obtain ⟨F, rfl⟩ : ∃ F', F = F' + 1 := ⟨F - 1, by omega⟩
    show ∃ v', f_X9_nextToken_s106 (nI len) text (f_X9_nextToken_b106 (nI len) text F) (nI p) 2 v bg = _ ∧ _
    unfold f_X9_nextToken_s106 f_X9_nextToken_b172
    rw [if_neg (show ¬ (2 : Int32) = 1 by decide), p_lat hl ht (by omega), bs, p_digit9 hb p, bs, nI_1, scan, gd_nI (by omega) (by omega)]
    cases hs : isD len t p with
    | true =>
      rw [if_neg (show ¬ b2 true = 0 by decide), if_pos rfl]
      by_cases h9 : v ≤ 99
      · rw [if_pos h9]
        obtain ⟨v', e, -⟩ := ih (p + 1) F (((10 * v) + (text (Int32.toNatClampNeg (nI p)))) - 48) (by omega) (by omega)
        exact ⟨v', e, fun q => by cases q⟩
      · rw [if_neg h9]
        obtain ⟨v', e, -⟩ := ih (p + 1) F v (by omega) (by omega)
        exact ⟨v', e, fun q => by cases q⟩
    | false =>
      rw [if_pos (show b2 false = 0 from rfl), if_neg (by decide)]
      exact ⟨v, rfl, fun _ => rfl⟩
theorem p_dig {v c : Nat} (h : 48 ≤ c) : ((10 * nI v) + nI c) - 48 = nI (10 * v + (c - 48)) := by
  rw [show (10 : Int32) = nI 10 from rfl, pk_mul, nI_add, show (48 : Int32) = nI 48 from rfl, pk_sub (by omega), show 10 * v + c - 48 = 10 * v + (c - 48) by omega]
theorem p_t106s {len p v : Nat} {t : Nat → Nat} {text : Nat → Int32} (hl : len ≤ 160) (ht : ∀ j, j < len → text j = nI (t j)) (hb : ∀ j, j < len → t j ≤ 255) (bg : Int32) {tk : Int32} (htk : ¬ tk = 1) (hd : isD len t p = true) (hv : v ≤ 99) (F : Nat) : f_X9_nextToken_b106 (nI len) text (F + 1) (nI p) tk (nI v) bg = f_X9_nextToken_b106 (nI len) text F (nI (p + 1)) 2 (nI (10 * v + (t p - 48))) bg := by
  have hpl : p < len ∧ 48 ≤ t p := by unfold isD at hd; simp at hd; exact ⟨hd.1, hd.2.1⟩
  show f_X9_nextToken_s106 (nI len) text (f_X9_nextToken_b106 (nI len) text F) (nI p) tk (nI v) bg = _
  unfold f_X9_nextToken_s106 f_X9_nextToken_b172
  rw [if_neg htk, p_lat hl ht (by omega), bs, p_digit9 hb p, bs, hd, if_neg (show ¬ b2 true = 0 by decide), if_pos (show nI v ≤ 99 from nI_le (a := v) (b := 99) hv (by omega)), gd_nI (by omega) (by omega), cl (by omega), ht p hpl.1, p_dig hpl.2, nI_1]
theorem p_next9 {len p : Nat} {t : Nat → Nat} {text : Nat → Int32} (hl : len ≤ 160) (ht : ∀ j, j < len → text j = nI (t j)) (hb : ∀ j, j < len → t j ≤ 255) (hp : p ≤ len) (tk v bg : Int32) : f_X9_nextToken (nI len) (nI p) tk v bg text = some (nI (tokE len t p), nI (tokK len t p), nI (tokV len t p), nI (tokS len t p)) := by
  have hts := tok_b (t := t) hp
  have fin : ∀ k : Nat, k = (if tokS len t p < len then 0 else 3) → f_X9_nextToken_b56 (nI len) text (nI k) (nI (tokS len t p)) tk 0 (nI (tokS len t p)) = some (nI (tokE len t p), nI (tokK len t p), nI (tokV len t p), nI (tokS len t p)) := by
    intro k hk
    unfold f_X9_nextToken_b56
    by_cases h3 : tokS len t p < len
    · rw [if_pos h3] at hk
      subst hk
      have := hb _ h3
      rw [p_t59 hl ht hb 0 (nI (tokS len t p)) (len - tokS len t p) (tokS len t p) 5000 0 (by omega) (by omega) (by omega)]
      unfold tokV tokK tokE
      cases h1 : isS len t (tokS len t p) with
      | true =>
        simp only [if_true]
        show f_X9_nextToken_s106 (nI len) text (f_X9_nextToken_b106 (nI len) text 4999) _ (nI 1) 0 _ = _
        unfold f_X9_nextToken_s106 f_X9_nextToken_b193 f_X9_nextToken_b221
        rw [if_pos (show nI 1 = 1 from rfl), if_neg (show ¬ nI 1 = 2 by decide), if_neg (show ¬ nI 1 = 0 by decide)]
        rfl
      | false =>
        have hsc : scan (isS len t) (len - tokS len t p) (tokS len t p) = tokS len t p := by
          obtain ⟨m, hm⟩ : ∃ m, len - tokS len t p = m + 1 := ⟨len - tokS len t p - 1, by omega⟩
          rw [hm, scan, h1]; rfl
        rw [hsc]
        simp only [if_neg (show ¬ (false = true) by decide), if_pos h3]
        cases h2 : isD len t (tokS len t p) with
        | false =>
          simp only [if_neg (show ¬ (false = true) by decide)]
          show f_X9_nextToken_s106 (nI len) text (f_X9_nextToken_b106 (nI len) text 4999) (nI (tokS len t p)) (nI 0) 0 _ = _
          unfold f_X9_nextToken_s106 f_X9_nextToken_b193 f_X9_nextToken_b221
          rw [if_neg (show ¬ nI 0 = 1 by decide), p_lat hl ht (by omega), bs, p_digit9 hb, bs, h2, if_pos (show b2 false = 0 from rfl), if_neg (show ¬ nI 0 = 2 by decide), if_pos (show nI 0 = 0 from rfl), gd_nI (by omega) (by omega), cl (by omega), ht _ h3, nI_1]
        | true =>
          simp only [if_true]
          have hd0 : 48 ≤ t (tokS len t p) ∧ t (tokS len t p) ≤ 57 := by unfold isD at h2; simp at h2; exact h2.2
          have e0 : (0 : Int32) = nI 0 := nI_0.symm
          rw [e0, p_t106s hl ht hb _ (show ¬ nI 0 = 1 by decide) h2 (by omega) 4999, show 10 * 0 + (t (tokS len t p) - 48) = t (tokS len t p) - 48 by omega]
          obtain ⟨m, hm⟩ : ∃ m, len - tokS len t p = m + 1 := ⟨len - tokS len t p - 1, by omega⟩
          rw [hm, scan, if_pos h2]
          have e221 : ∀ (a v b : Int32), f_X9_nextToken_b221 (nI len) text a 2 v b = some (a, 2, v, b) := fun a v b => rfl
          cases h4 : isD len t (tokS len t p + 1) with
          | false =>
            obtain ⟨v', e, ev⟩ := p_t106d hl ht hb (nI (tokS len t p)) m (tokS len t p + 1) 4999 (nI (t (tokS len t p) - 48)) (by omega) (by omega)
            have hs1 : scan (isD len t) m (tokS len t p + 1) = tokS len t p + 1 := by
              cases m with
              | zero => rfl
              | succ m => rw [scan, h4]; rfl
            rw [e, ev h4, hs1]
            unfold f_X9_nextToken_b193
            rw [if_pos rfl, pk_sub (by omega), if_pos (show nI (tokS len t p + 1 - tokS len t p) ≤ 2 by rw [show tokS len t p + 1 - tokS len t p = 1 by omega]; decide), e221]
            simp only [eq_self, if_true]
            rfl
          | true =>
            have hd1 : tokS len t p + 1 < len ∧ 48 ≤ t (tokS len t p + 1) ∧ t (tokS len t p + 1) ≤ 57 := by unfold isD at h4; simp at h4; exact h4
            rw [p_t106s hl ht hb _ (show ¬ (2 : Int32) = 1 by decide) h4 (by omega) 4998]
            obtain ⟨m, rfl⟩ : ∃ m', m = m' + 1 := ⟨m - 1, by omega⟩
            obtain ⟨v', e, ev⟩ := p_t106d hl ht hb (nI (tokS len t p)) m (tokS len t p + 1 + 1) 4998 (nI (10 * (t (tokS len t p) - 48) + (t (tokS len t p + 1) - 48))) (by omega) (by omega)
            rw [e, scan, if_pos h4]
            have hsb := scan_b (isD len t) m (tokS len t p + 1 + 1)
            unfold f_X9_nextToken_b193
            rw [if_pos rfl, pk_sub (by omega)]
            cases h5 : isD len t (tokS len t p + 1 + 1) with
            | false =>
              have hs1 : scan (isD len t) m (tokS len t p + 1 + 1) = tokS len t p + 1 + 1 := by
                cases m with
                | zero => rfl
                | succ m => rw [scan, h5]; rfl
              rw [hs1, ev h5, if_pos (show nI (tokS len t p + 1 + 1 - tokS len t p) ≤ 2 by rw [show tokS len t p + 1 + 1 - tokS len t p = 2 by omega]; decide), e221, if_neg (show ¬ tokS len t p + 1 + 1 = tokS len t p + 1 by omega), if_pos (show tokS len t p + 1 + 1 = tokS len t p + 2 by omega)]
              rfl
            | true =>
              have hd2 : tokS len t p + 1 + 1 < len := by unfold isD at h5; simp at h5; exact h5.1
              have hs1 : tokS len t p + 3 ≤ scan (isD len t) m (tokS len t p + 1 + 1) := by
                cases m with
                | zero => omega
                | succ m =>
                  rw [scan, if_pos h5]
                  have := (scan_b (isD len t) m (tokS len t p + 1 + 1 + 1)).1
                  omega
              rw [if_neg (show ¬ nI (scan (isD len t) m (tokS len t p + 1 + 1) - tokS len t p) ≤ 2 from nI_ge (a := 2) (b := scan (isD len t) m (tokS len t p + 1 + 1) - tokS len t p) (by omega) (by omega)), e221, if_neg (by omega), if_neg (by omega)]
              rfl
    · rw [if_neg h3] at hk
      subst hk
      have hs : isS len t (tokS len t p) = false := by unfold isS; rw [decide_eq_false h3]; rfl
      have hd : isD len t (tokS len t p) = false := by unfold isD; rw [decide_eq_false h3]; rfl
      unfold tokV tokK tokE
      rw [hs, hd]
      simp only [if_neg (show ¬ (false = true) by decide), if_neg h3]
      show f_X9_nextToken_s59 (nI len) text (f_X9_nextToken_b59 (nI len) text 4999) (nI (tokS len t p)) (nI 3) 0 _ = _
      unfold f_X9_nextToken_s59
      rw [if_pos (show (2 : Int32) ≤ nI 3 by decide)]
      show f_X9_nextToken_s106 (nI len) text (f_X9_nextToken_b106 (nI len) text 4999) (nI (tokS len t p)) (nI 3) 0 _ = _
      unfold f_X9_nextToken_s106 f_X9_nextToken_b193 f_X9_nextToken_b221
      rw [if_neg (show ¬ nI 3 = 1 by decide), p_lat hl ht (by omega), bs, p_digit9 hb, bs, hd, if_pos (show b2 false = 0 from rfl), if_neg (show ¬ nI 3 = 2 by decide), if_neg (show ¬ nI 3 = 0 by decide)]
      rfl
  have loop : ∀ (m r F : Nat), r + m = len → m < F → scan (isB len t) m r = tokS len t p → f_X9_nextToken_b0 (nI len) text F (nI r) tk v bg = some (nI (tokE len t p), nI (tokK len t p), nI (tokV len t p), nI (tokS len t p)) := by
    intro m
    induction m with
    | zero =>
      intro r F hr hF hsc
      obtain ⟨F, rfl⟩ : ∃ F', F = F' + 1 := ⟨F - 1, by omega⟩
      show f_X9_nextToken_s0 (nI len) text (f_X9_nextToken_b0 (nI len) text F) (nI r) tk v bg = _
      unfold f_X9_nextToken_s0
      have hrs : r = tokS len t p := hsc
      rw [p_lat hl ht (by omega), bs, if_neg (show ¬ r < len by omega), if_neg (show ¬ (0 : Int32) = 32 by decide), if_pos (show nI r = nI len by rw [show r = len by omega]), hrs]
      exact fin 3 (by rw [if_neg (by omega)])
    | succ m ih =>
      intro r F hr hF hsc
      obtain ⟨F, rfl⟩ : ∃ F', F = F' + 1 := ⟨F - 1, by omega⟩
      show f_X9_nextToken_s0 (nI len) text (f_X9_nextToken_b0 (nI len) text F) (nI r) tk v bg = _
      unfold f_X9_nextToken_s0
      have hrl : r < len := by omega
      have := hb r hrl
      rw [p_lat hl ht (by omega), bs, if_pos hrl, nI_1]
      rw [scan] at hsc
      by_cases h : t r = 32
      · rw [if_pos (show nI (t r) = 32 by rw [h]; rfl)]
        rw [if_pos (by unfold isB; simp [h, hrl])] at hsc
        exact ih (r + 1) F (by omega) (by omega) hsc
      · rw [if_neg (show ¬ nI (t r) = 32 from fun q => h ((nI_eq (a := t r) (b := 32) (by omega) (by omega)).mp q)), if_neg (show ¬ nI r = nI len from fun q => by have := (nI_eq (by omega) (by omega)).mp q; omega)]
        rw [if_neg (by unfold isB; simp [h])] at hsc
        rw [hsc]
        exact fin 0 (by rw [if_pos (by omega)])
  exact loop (len - p) p 5000 (by omega) (by omega) rfl
