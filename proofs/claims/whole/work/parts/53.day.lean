def coldN (c : Nat) (cd : Nat → Nat) (d : Nat) : Nat := if c = 0 then 5 else cd (d % c)
theorem p_cold5 {c d : Nat} {cd : Nat → Nat} {colds : Nat → Int32} (hc : c ≤ 6) (hd : d < 2 ^ 30) (h : ∀ j, j < c → colds j = nI (cd j)) : f_X5_coldOn (nI c) colds (nI d) = some (nI (coldN c cd d)) := by
  unfold f_X5_coldOn coldN
  by_cases h0 : c = 0
  · subst h0
    rw [if_pos rfl, if_pos (by rw [nI_0]; decide)]
    rfl
  · have hlt : d % c < c := Nat.mod_lt _ (by omega)
    rw [if_neg h0, if_neg (nI_nle (by omega) (by omega)), if_neg (nI_pos (by omega))]
    unfold nz_
    rw [if_neg (nI_ne0 (by omega) (by omega)), pk_rem (by omega) (by omega) (by omega), gd_nI (by omega) (by omega), cl (by omega), h _ hlt]
theorem p_cold9 {c d : Nat} {cd : Nat → Nat} {told st : Nat → Int32} (hc : c ≤ 6) (hd : d < 2 ^ 30) (h2 : told 2 = nI c) (h14 : st 14 = nI d) (h : ∀ j, j < c → told (31 + j) = nI (cd j)) : f_X9_coldNow told st = some (nI (coldN c cd d)) := by
  unfold f_X9_coldNow coldN
  rw [h2, h14]
  by_cases h0 : c = 0
  · subst h0
    rw [if_pos rfl, if_pos nI_0]
    rfl
  · have hlt : d % c < c := Nat.mod_lt _ (by omega)
    rw [if_neg h0, if_neg (nI_ne0 (by omega) (by omega))]
    unfold nz_
    rw [if_neg (nI_ne0 (by omega) (by omega)), pk_rem (by omega) (by omega) (by omega), l31, gd_nI (by omega) (by omega), cl (by omega), h _ hlt]
def wSet (kinds : Nat → Int32) (n d s : Nat) : Int32 := wsum (fun k => wtI (kinds k) (d % 2 == 1)) s n
theorem wsum_congr {t u : Nat → Int32} {s : Nat} : ∀ {n : Nat}, (∀ k, k < n → t k = u k) → wsum t s n = wsum u s n := by
  intro n
  induction n with
  | zero => intro _; rfl
  | succ n ih => intro h; rw [wsum, wsum, ih (fun k hk => h k (by omega)), h n (by omega)]
theorem p_weights9 {n d s : Nat} (hn : n ≤ 7) (hd : d < 1024) (hs : s < 256) {told st kinds : Nat → Int32} (h0 : told 0 = nI n) (h14 : st 14 = nI d) (hk : ∀ f, f < 7 → told (3 + f) = kinds f) : f_X9_weights st told (nI s) = some (wSet kinds n d s) := by
  unfold f_X9_weights
  rw [p_night9 hd h14, bs, p_weightsBy hn hs told h0, bs]
  unfold wSet
  rw [wsum_congr (fun k hk' => by rw [hk k (by omega)])]
def carr (kinds : Nat → Int32) (q n d : Nat) (h : Nat → Nat) (lk : Nat → Nat → Bool) (f : Nat) : Bool := !decide (wSet kinds n d (dset n h lk f) < nI q)
theorem p_carried9 {n d q f : Nat} (hn : n ≤ 7) (hf : f < n) (hd : d < 1024) {told st kinds : Nat → Int32} {h : Nat → Nat} {lk : Nat → Nat → Bool} (h0 : told 0 = nI n) (h1 : told 1 = nI q) (h14 : st 14 = nI d) (hk : ∀ f, f < 7 → told (3 + f) = kinds f) (hs : ∀ k, k < 7 → st k = nI (h k)) (hb : ∀ k, h k ≤ 20) (hl : ∀ a, a < n → st (7 + a) = nI (lset n lk a)) : f_X9_isCarried told st (nI f) = some (b2 (carr kinds q n d h lk f)) := by
  unfold f_X9_isCarried
  have hlt : dset n h lk f < 128 := setOf_lt7 _ hn
  rw [p_doneUp9 hn hf h0 hs hb hl, bs, p_weights9 hn hd (by omega) h0 h14 hk, bs, h1]
  unfold carr b2
  by_cases hw : wSet kinds n d (dset n h lk f) < nI q <;> simp [hw]
theorem wSet0 (kinds : Nat → Int32) (d : Nat) : ∀ n, wSet kinds n d 0 = 0 := by
  intro n
  unfold wSet
  induction n with
  | zero => rfl
  | succ n ih => rw [wsum, ih]; simp
def worn (kinds : Nat → Int32) (q n d : Nat) (h : Nat → Nat) (lk : Nat → Nat → Bool) (f : Nat) : Bool := !(h f == 0) && carr kinds q n d h lk f
theorem bz_b2 {α : Type} (b : Bool) (k : Option α) : bz_ (b2 b) k = k := by
  unfold bz_ b2
  cases b <;> simp
theorem p_carriedBy {n d q s : Nat} (hn : n ≤ 7) (hs : s < 256) {kinds : Nat → Int32} : f_X5_isCarriedBy (nI n) (nI q) kinds (nI s) (b2 (d % 2 == 1)) = some (b2 (!decide (wSet kinds n d s < nI q))) := by
  unfold f_X5_isCarriedBy
  rw [p_weightOfSet hn hs, bs]
  show (if wSet kinds n d s < nI q then some 0 else some 1) = _
  unfold b2
  by_cases hw : wSet kinds n d s < nI q <;> simp [hw]
theorem p_carried0 {n d q : Nat} (hn : n ≤ 7) (hq : 1 ≤ q ∧ q ≤ 20) {kinds : Nat → Int32} : f_X5_isCarriedBy (nI n) (nI q) kinds (nI 0) (b2 (d % 2 == 1)) = some (b2 false) := by
  have h1 : (0 : Int32) < nI q := by rw [← nI_0]; exact nI_lt (by omega) (by omega)
  rw [p_carriedBy hn (by omega), wSet0]
  simp [h1]
theorem p_carried7 {n d q f : Nat} (hn : n ≤ 7) (hf : f < n) (hd : d < 1024) (hq : 1 ≤ q ∧ q ≤ 20) {kinds fav : Nat → Int32} {h : Nat → Nat} {lk : Nat → Nat → Bool} (hF : fav f = nI (fset n lk f)) : f_X7_isCarriedFor (nI d) (nI (zset n h)) (nI n) (nI q) fav kinds (nI f) = some (b2 (worn kinds q n d h lk f)) := by
  unfold f_X7_isCarriedFor
  have hlt : dset n h lk f < 128 := setOf_lt7 _ hn
  rw [p_doneUp7 hn hf hF, bs, p_night7 d hd, bs]
  unfold worn carr
  by_cases hz : h f = 0
  · have hzb : (h f == 0) = true := by simp [hz]
    rw [if_pos hz, ← nI_0, p_carried0 hn hq, bs, bz_b2, hzb]
    rfl
  · have hzb : (h f == 0) = false := by simp [hz]
    rw [if_neg hz, p_carriedBy hn (by omega), bs, bz_b2, hzb]
    rfl
theorem p_carriedN {n d q : Nat} (hn : n ≤ 7) (hd : d < 1024) (hq : 1 ≤ q ∧ q ≤ 20) {z : Int32} {kinds fav : Nat → Int32} : f_X7_isCarriedFor (nI d) z (nI n) (nI q) fav kinds (-1) = some 0 := by
  unfold f_X7_isCarriedFor
  rw [p_doneUpN, bs, p_night7 d hd, bs, show f_X5_isCarriedBy (nI n) (nI q) kinds 0 (b2 (d % 2 == 1)) = some (b2 false) from (by rw [← nI_0]; exact p_carried0 hn hq), bs, bz_b2]
  rfl
def nsum (t : Nat → Nat) (s : Nat) : Nat → Nat
  | 0 => 0
  | k + 1 => nsum t s k + (if s.testBit k then t k else 0)
def wmN (w : Nat → Nat) (s : Nat) (k : Nat) : Nat := if s.testBit (k + 1) ∨ (0 < k ∧ s.testBit (k - 1)) then w k else w k / 2
def warmN (w : Nat → Nat) (n s : Nat) : Nat := nsum (wmN w s) s n
theorem warm_nI {w : Nat → Nat} {wi : Nat → Int32} {s : Nat} : ∀ {n : Nat}, (∀ k, k < n → wi k = nI (w k) ∧ w k ≤ 9) → wsum (wmI wi s) s n = nI (warmN w n s) ∧ warmN w n s ≤ 9 * n := by
  intro n
  unfold warmN
  induction n with
  | zero => intro _; exact ⟨nI_0.symm, Nat.le_refl _⟩
  | succ n ih =>
    intro h
    obtain ⟨i1, i2⟩ := ih (fun k hk => h k (by omega))
    obtain ⟨e1, e2⟩ := h n (by omega)
    have hm : wmI wi s n = nI (wmN w s n) ∧ wmN w s n ≤ 9 := by
      unfold wmI wmN
      split
      · exact ⟨e1, e2⟩
      · refine ⟨?_, by omega⟩
        rw [e1]
        exact pk_div (d := 2) (by omega) (by omega) (by omega)
    rw [wsum, nsum, i1]
    by_cases hb : s.testBit n = true
    · rw [if_pos hb, if_pos hb, hm.1, nI_add]
      exact ⟨rfl, by omega⟩
    · rw [if_neg hb, if_neg hb, Int32.add_zero, Nat.add_zero]
      exact ⟨rfl, by omega⟩
def dayH (cold : Nat) (wearer : Option Nat) (warm : Nat) (h : Nat → Nat) (k : Nat) : Nat :=
  if h k = 0 then 0 else if wearer = some k then (if cold ≤ warm then min (h k + 2) 20 else h k - (cold - warm)) else h k - cold / 5
