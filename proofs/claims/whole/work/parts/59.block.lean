/-! block -/
def oI (b : Option Nat) : Int32 := match b with
  | none => -1
  | some s => nI s
def fewI (b : Option Nat) : Int32 := match b with
  | none => 8
  | some s => nI (pcn s)
def lessP (b : Option Nat) (s : Nat) : Bool := match b with
  | none => true
  | some t => decide (pcn s < pcn t)
def bestF (B : Nat → Bool) : Nat → Option Nat
  | 0 => none
  | k + 1 => if B k && lessP (bestF B k) k then some k else bestF B k
theorem bestF_lt {B : Nat → Bool} : ∀ k s, bestF B k = some s → s < k := by
  intro k
  induction k with
  | zero => intro s h; cases h
  | succ k ih =>
    intro s h
    rw [bestF] at h
    split at h
    · cases h; omega
    · have := ih s h; omega
def blB (wn cd : Nat → Nat) (n c d : Nat) (h : Nat → Nat) (f s : Nat) : Bool := decide (s &&& oset n h f = s) && decide (warmN wn n (aset n h &&& (2 ^ n - 1 - s)) < coldN c cd d)
theorem p_minus {n a s : Nat} (hn : n ≤ 7) (ha : a < 2 ^ n) (hs : s < 2 ^ n) : nI a &&& (nI s ^^^ (-1)) = nI (a &&& (2 ^ n - 1 - s)) := by
  have hp : 2 ^ n ≤ 2 ^ 7 := Nat.pow_le_pow_right (by decide) hn
  have e : nI a = nI a &&& nI (2 ^ n - 1) := by
    rw [p_and (by omega) (by omega), Nat.and_two_pow_sub_one_of_lt_two_pow ha]
  rw [e, Int32.and_assoc, p_compl n hn s hs, p_and (by omega) (by omega)]
theorem oset_or {n f : Nat} (hn : n ≤ 7) {h : Nat → Nat} (hf : f < n) (hz : ¬ h f = 0) : oset n h f ||| 2 ^ f = aset n h := by
  have h2 : 2 ^ f < 2 ^ n := Nat.pow_lt_pow_right (by decide) hf
  symm
  apply setOf_ext (n := n) (setOf_lt _ n) (Nat.or_lt_two_pow (setOf_lt _ n) h2)
  intro k hk
  rw [Nat.testBit_or, setOf_bit, setOf_bit, Nat.testBit_two_pow]
  by_cases q : k = f
  · subst q; simp [hk, hz]
  · have q' : ¬ f = k := fun z => q z.symm
    have q2 : (k == f) = false := by simp [q]
    simp [q', q2]
theorem few_le {b : Option Nat} {s : Nat} (hb : ∀ t, b = some t → t < 128) (hs : s < 128) : (fewI b ≤ nI (pcn s)) ↔ lessP b s = false := by
  have h1 := pcn_le s hs
  cases b with
  | none =>
    simp only [fewI, lessP]
    constructor
    · intro q
      exact absurd q (nI_ge (a := pcn s) (b := 8) (by omega) (by omega))
    · intro q; cases q
  | some t =>
    have h2 := pcn_le t (hb t rfl)
    simp only [fewI, lessP]
    rw [nI_leI (by omega) (by omega)]
    simp
theorem p_bl8_loop {n c d f : Nat} (hn : n ≤ 7) (hf : f < n) {warmths colds : Nat → Int32} {wn cd h : Nat → Nat} (hw : ∀ k, k < n → warmths k = nI (wn k) ∧ wn k ≤ 9) (hcd : ∀ j, cd j ≤ 40) (cc dt z : Int32) : ∀ (m k F : Nat), k + m = 2 ^ n → m < F → f_X8_block_b54 (nI n) cc dt z colds warmths F (nI (oset n h f)) (nI (aset n h)) (nI (coldN c cd d)) (oI (bestF (blB wn cd n c d h f) k)) (fewI (bestF (blB wn cd n c d h f) k)) (nI k) = some (oI (bestF (blB wn cd n c d h f) (2 ^ n))) := by
  have hp : 2 ^ n ≤ 2 ^ 7 := Nat.pow_le_pow_right (by decide) hn
  have hp1 : 0 < 2 ^ n := Nat.pos_of_ne_zero (by simp)
  have hlt : oset n h f < 2 ^ n := setOf_lt _ n
  have hal : aset n h < 2 ^ n := setOf_lt _ n
  have hcl : coldN c cd d ≤ 40 := cold_le hcd
  intro m
  induction m with
  | zero =>
    intro k F hk hF
    obtain ⟨F, rfl⟩ : ∃ F', F = F' + 1 := ⟨F - 1, by omega⟩
    obtain rfl : k = 2 ^ n := by omega
    show f_X8_block_s54 (nI n) cc dt z colds warmths (f_X8_block_b54 (nI n) cc dt z colds warmths F) _ _ _ _ _ _ = _
    unfold f_X8_block_s54
    rw [(p_all n hn).1, bs, if_pos (nI_lt (by omega) (by omega))]
  | succ m ih =>
    intro k F hk hF
    obtain ⟨F, rfl⟩ : ∃ F', F = F' + 1 := ⟨F - 1, by omega⟩
    show f_X8_block_s54 (nI n) cc dt z colds warmths (f_X8_block_b54 (nI n) cc dt z colds warmths F) _ _ _ _ _ _ = _
    unfold f_X8_block_s54 f_X8_block_b116
    have h2 := ih (k + 1) F (by omega) (by omega)
    rw [bestF] at h2
    have hks : k < 2 ^ n := by omega
    have hand : aset n h &&& (2 ^ n - 1 - k) < 128 := Nat.lt_of_lt_of_le (Nat.and_lt_two_pow _ (by omega : 2 ^ n - 1 - k < 2 ^ n)) hp
    obtain ⟨w1, w2⟩ := warm_nI (s := aset n h &&& (2 ^ n - 1 - k)) hw
    have hfl := few_le (b := bestF (blB wn cd n c d h f) k) (s := k) (fun t e => by have := bestF_lt k t e; omega) (by omega)
    rw [(p_all n hn).1, bs, if_neg (nI_nlt (by omega) (by omega)), p_bitCount k (by omega), bs, p_within k (by omega) _ (by omega), bs, p_minus hn hal hks, p_warmthOfSet hn hand, bs, w1, nI_1]
    by_cases h1 : k &&& oset n h f = k
    · rw [if_pos h1, if_neg (by decide)]
      by_cases h3 : lessP (bestF (blB wn cd n c d h f) k) k = true
      · rw [if_neg (fun q => by rw [hfl.mp q] at h3; cases h3)]
        by_cases h4 : warmN wn n (aset n h &&& (2 ^ n - 1 - k)) < coldN c cd d
        · have e : blB wn cd n c d h f k = true := by unfold blB; simp [h1, h4]
          rw [if_neg (nI_ge h4 (by omega))]
          rw [e, h3] at h2
          exact h2
        · have e : blB wn cd n c d h f k = false := by unfold blB; simp [h4]
          rw [if_pos (nI_le (by omega) (by omega))]
          rw [e] at h2
          exact h2
      · have h3' : lessP (bestF (blB wn cd n c d h f) k) k = false := by simpa using h3
        rw [if_pos (hfl.mpr h3')]
        rw [h3', Bool.and_false] at h2
        exact h2
    · have e : blB wn cd n c d h f k = false := by unfold blB; simp [h1]
      rw [if_neg h1, if_pos rfl]
      rw [e] at h2
      exact h2
