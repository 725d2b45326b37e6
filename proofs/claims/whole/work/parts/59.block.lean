def oI (b : Option Nat) : Int32 := match b with
  | none => -1
  | some s => nI s
def fewI (b : Option Nat) : Int32 := match b with
  | none => 8
  | some s => nI (pcn s)
def lessP (b : Option Nat) (s : Nat) : Bool := match b with
  | none => true
  | some t => decide (pcn s < pcn t)
def bestF (B : Nat → Bool) : Nat → Option Nat
  | 0 => none
  | k + 1 => if B k && lessP (bestF B k) k then some k else bestF B k
theorem bestF_lt {B : Nat → Bool} : ∀ k s, bestF B k = some s → s < k := by
  intro k
  induction k with
  | zero => intro s h; cases h
  | succ k ih =>
    intro s h
    rw [bestF] at h
    split at h
    · cases h; omega
    · have := ih s h; omega
def blB (wn cd : Nat → Nat) (n c d : Nat) (h : Nat → Nat) (f s : Nat) : Bool := decide (s &&& oset n h f = s) && decide (warmN wn n (aset n h &&& (2 ^ n - 1 - s)) < coldN c cd d)
theorem p_minus {n a s : Nat} (hn : n ≤ 7) (ha : a < 2 ^ n) (hs : s < 2 ^ n) : nI a &&& (nI s ^^^ (-1)) = nI (a &&& (2 ^ n - 1 - s)) := by
  have hp : 2 ^ n ≤ 2 ^ 7 := Nat.pow_le_pow_right (by decide) hn
  have e : nI a = nI a &&& nI (2 ^ n - 1) := by
    rw [p_and (by omega) (by omega), Nat.and_two_pow_sub_one_of_lt_two_pow ha]
  rw [e, Int32.and_assoc, p_compl n hn s hs, p_and (by omega) (by omega)]
theorem oset_or {n f : Nat} (hn : n ≤ 7) {h : Nat → Nat} (hf : f < n) (hz : ¬ h f = 0) : oset n h f ||| 2 ^ f = aset n h := by
  have h2 : 2 ^ f < 2 ^ n := Nat.pow_lt_pow_right (by decide) hf
  symm
  apply setOf_ext (n := n) (setOf_lt _ n) (Nat.or_lt_two_pow (setOf_lt _ n) h2)
  intro k hk
  rw [Nat.testBit_or, setOf_bit, setOf_bit, Nat.testBit_two_pow]
  by_cases q : k = f
  · subst q; simp [hk, hz]
  · have q' : ¬ f = k := fun z => q z.symm
    have q2 : (k == f) = false := by simp [q]
    simp [q', q2]
theorem few_le {b : Option Nat} {s : Nat} (hb : ∀ t, b = some t → t < 128) (hs : s < 128) : (fewI b ≤ nI (pcn s)) ↔ lessP b s = false := by
  have h1 := pcn_le s hs
  cases b with
  | none =>
    simp only [fewI, lessP]
    constructor
    · intro q
      exact absurd q (nI_ge (a := pcn s) (b := 8) (by omega) (by omega))
    · intro q; cases q
  | some t =>
    have h2 := pcn_le t (hb t rfl)
    simp only [fewI, lessP]
    rw [nI_leI (by omega) (by omega)]
    simp
theorem p_bl8_loop {n c d f : Nat} (hn : n ≤ 7) (hf : f < n) {warmths colds : Nat → Int32} {wn cd h : Nat → Nat} (hw : ∀ k, k < n → warmths k = nI (wn k) ∧ wn k ≤ 9) (hcd : ∀ j, cd j ≤ 40) (cc dt z : Int32) : ∀ (m k F : Nat), k + m = 2 ^ n → m < F → f_X8_block_b54 (nI n) cc dt z colds warmths F (nI (oset n h f)) (nI (aset n h)) (nI (coldN c cd d)) (oI (bestF (blB wn cd n c d h f) k)) (fewI (bestF (blB wn cd n c d h f) k)) (nI k) = some (oI (bestF (blB wn cd n c d h f) (2 ^ n))) := by
  have hp : 2 ^ n ≤ 2 ^ 7 := Nat.pow_le_pow_right (by decide) hn
  have hp1 : 0 < 2 ^ n := Nat.pos_of_ne_zero (by simp)
  have hlt : oset n h f < 2 ^ n := setOf_lt _ n
  have hal : aset n h < 2 ^ n := setOf_lt _ n
  have hcl : coldN c cd d ≤ 40 := cold_le hcd
  intro m
  induction m with
  | zero =>
    intro k F hk hF
    obtain ⟨F, rfl⟩ : ∃ F', F = F' + 1 := ⟨F - 1, by omega⟩
    obtain rfl : k = 2 ^ n := by omega
    show f_X8_block_s54 (nI n) cc dt z colds warmths (f_X8_block_b54 (nI n) cc dt z colds warmths F) _ _ _ _ _ _ = _
    unfold f_X8_block_s54
    rw [(p_all n hn).1, bs, if_pos (nI_lt (by omega) (by omega))]
  | succ m ih =>
    intro k F hk hF
    obtain ⟨F, rfl⟩ : ∃ F', F = F' + 1 := ⟨F - 1, by omega⟩
    show f_X8_block_s54 (nI n) cc dt z colds warmths (f_X8_block_b54 (nI n) cc dt z colds warmths F) _ _ _ _ _ _ = _
    unfold f_X8_block_s54 f_X8_block_b116
    have h2 := ih (k + 1) F (by omega) (by omega)
    rw [bestF] at h2
    have hks : k < 2 ^ n := by omega
    have hand : aset n h &&& (2 ^ n - 1 - k) < 128 := Nat.lt_of_lt_of_le (Nat.and_lt_two_pow _ (by omega : 2 ^ n - 1 - k < 2 ^ n)) hp
    obtain ⟨w1, w2⟩ := warm_nI (s := aset n h &&& (2 ^ n - 1 - k)) hw
    have hfl := few_le (b := bestF (blB wn cd n c d h f) k) (s := k) (fun t e => by have := bestF_lt k t e; omega) (by omega)
    rw [(p_all n hn).1, bs, if_neg (nI_nlt (by omega) (by omega)), p_bitCount k (by omega), bs, p_within k (by omega) _ (by omega), bs, p_minus hn hal hks, p_warmthOfSet hn hand, bs, w1, nI_1]
    by_cases h1 : k &&& oset n h f = k
    · rw [if_pos h1, if_neg (by decide)]
      by_cases h3 : lessP (bestF (blB wn cd n c d h f) k) k = true
      · rw [if_neg (fun q => by rw [hfl.mp q] at h3; cases h3)]
        by_cases h4 : warmN wn n (aset n h &&& (2 ^ n - 1 - k)) < coldN c cd d
        · have e : blB wn cd n c d h f k = true := by unfold blB; simp [h1, h4]
          rw [if_neg (nI_ge h4 (by omega))]
          rw [e, h3] at h2
          exact h2
        · have e : blB wn cd n c d h f k = false := by unfold blB; simp [h4]
          rw [if_pos (nI_le (by omega) (by omega))]
          rw [e] at h2
          exact h2
      · have h3' : lessP (bestF (blB wn cd n c d h f) k) k = false := by simpa using h3
        rw [if_pos (hfl.mpr h3')]
        rw [h3', Bool.and_false] at h2
        exact h2
    · have e : blB wn cd n c d h f k = false := by unfold blB; simp [h1]
      rw [if_neg h1, if_pos rfl]
      rw [e] at h2
      exact h2
theorem p_bl9_loop {n c d f : Nat} (hn : n ≤ 7) (hf : f < n) (hc : c ≤ 6) (hd : d < 1024) {told st : Nat → Int32} {wn cd h : Nat → Nat} (t0 : told 0 = nI n) (t2 : told 2 = nI c) (s14 : st 14 = nI d) (hw : ∀ k, k < n → told (10 + k) = nI (wn k) ∧ wn k ≤ 9) (hcs : ∀ j, j < c → told (31 + j) = nI (cd j)) (hcd : ∀ j, cd j ≤ 40) : ∀ (m k F : Nat), k + m = 2 ^ n → m < F → f_X9_block_b32 told st F (nI f) (nI (aset n h)) (oI (bestF (blB wn cd n c d h f) k)) (nI k) = some (oI (bestF (blB wn cd n c d h f) (2 ^ n))) := by
  have hp : 2 ^ n ≤ 2 ^ 7 := Nat.pow_le_pow_right (by decide) hn
  have hp1 : 0 < 2 ^ n := Nat.pos_of_ne_zero (by simp)
  have hal : aset n h < 2 ^ n := setOf_lt _ n
  have hcl : coldN c cd d ≤ 40 := cold_le hcd
  intro m
  induction m with
  | zero =>
    intro k F hk hF
    obtain ⟨F, rfl⟩ : ∃ F', F = F' + 1 := ⟨F - 1, by omega⟩
    obtain rfl : k = 2 ^ n := by omega
    show f_X9_block_s32 told st (f_X9_block_b32 told st F) _ _ _ _ = _
    unfold f_X9_block_s32
    rw [t0, (p_all n hn).2.1, if_pos (nI_le (Nat.le_refl _) (by omega))]
  | succ m ih =>
    intro k F hk hF
    obtain ⟨F, rfl⟩ : ∃ F', F = F' + 1 := ⟨F - 1, by omega⟩
    show f_X9_block_s32 told st (f_X9_block_b32 told st F) _ _ _ _ = _
    unfold f_X9_block_s32 f_X9_block_b84 f_X9_block_b85 f_X9_block_b108 f_X9_block_b113 f_X9_block_b114
    have h2 := ih (k + 1) F (by omega) (by omega)
    rw [bestF] at h2
    have hks : k < 2 ^ n := by omega
    have hand : aset n h &&& (2 ^ n - 1 - k) < 128 := Nat.lt_of_lt_of_le (Nat.and_lt_two_pow _ (by omega : 2 ^ n - 1 - k < 2 ^ n)) hp
    obtain ⟨w1, w2⟩ := warm_nI (s := aset n h &&& (2 ^ n - 1 - k)) (wi := fun k => told (10 + k)) hw
    have hsub := sub_oset (f := f) h hks
    rw [t0, (p_all n hn).2.1, if_neg (nI_ge (by omega) (by omega)), p_has k (by omega) f (by omega), bs, p_minus hn hal hks, p_warmBy hn hand told t0, bs, w1, p_cold9 hc (by omega) t2 s14 hcs, bs, nI_1]
    simp only [if_pos (show (0 : Int32) = 0 from rfl), if_neg (show ¬ (1 : Int32) = 0 by decide)]
    by_cases ha : k &&& aset n h = k
    · rw [if_pos ((p_subset hn hks hal).mpr ha)]
      by_cases hbt : k.testBit f = true
      · have h1 : ¬ (k &&& oset n h f = k) := fun q => by
          have := (hsub.mp q).1
          rw [hbt] at this
          rcases this with z | z
          · cases z
          · omega
        have e : blB wn cd n c d h f k = false := by unfold blB; simp [h1]
        rw [if_pos hbt, if_neg (by decide)]
        rw [e] at h2
        exact h2
      · have hbf : k.testBit f = false := by simpa using hbt
        have h1 : k &&& oset n h f = k := hsub.mpr ⟨Or.inl hbf, ha⟩
        rw [if_neg hbt, if_pos rfl]
        by_cases h4 : warmN wn n (aset n h &&& (2 ^ n - 1 - k)) < coldN c cd d
        · have e : blB wn cd n c d h f k = true := by unfold blB; simp [h1, h4]
          rw [if_neg (nI_ge h4 (by omega))]
          rw [e, Bool.true_and] at h2
          cases hbf' : bestF (blB wn cd n c d h f) k with
          | none =>
            rw [hbf'] at h2
            rw [if_pos (show oI none < 0 by decide)]
            exact h2
          | some t =>
            have ht := bestF_lt k t hbf'
            rw [hbf'] at h2
            have hpt := pcn_le t (by omega)
            have hpk := pcn_le k (by omega)
            rw [if_neg (show ¬ oI (some t) < 0 from nI_pos (by omega))]
            show ((f_X9_ones (nI k)).bind fun y13 => (f_X9_ones (nI t)).bind fun y15 => _) = _
            rw [p_ones k (by omega), bs, p_ones t (by omega), bs]
            by_cases h5 : pcn k < pcn t
            · rw [if_neg (nI_ge h5 (by omega))]
              simp only [lessP, h5, decide_true, if_true] at h2
              exact h2
            · rw [if_pos (nI_le (by omega) (by omega))]
              simp only [lessP, h5, decide_false] at h2
              exact h2
        · have e : blB wn cd n c d h f k = false := by unfold blB; simp [h4]
          rw [if_pos (nI_le (by omega) (by omega))]
          rw [e] at h2
          exact h2
    · have h1 : ¬ k &&& oset n h f = k := fun q => ha (hsub.mp q).2
      have e : blB wn cd n c d h f k = false := by unfold blB; simp [h1]
      rw [if_neg (fun q => ha ((p_subset hn hks hal).mp q))]
      rw [e] at h2
      exact h2
theorem q_block {n q c d : Nat} {wn cd h : Nat → Nat} {lt lk : Nat → Nat → Bool} {fam quota cc date frozen : Int32} {kinds warmths prices tfav colds told healths fav st : Nat → Int32} (T : TOR n q c wn cd lt fam quota cc kinds warmths prices tfav colds told) (Wi : WIR n d h lk date frozen healths fav st) (x : Int32) : ∃ r, f_X8_block fam cc date frozen colds warmths x = some r ∧ f_X9_block told st x = some r := by
  obtain ⟨hn, hq, hc, ⟨rfl, rfl, rfl⟩, ⟨t0, t1, t2⟩, tk, tw, tp, tc, hw, hkd, hcs, hcd, hF, hL⟩ := T
  obtain ⟨hd, rfl, s14, rfl, hh, hs, hb, hz, wF, wL, hlk⟩ := Wi
  have hp : 2 ^ n ≤ 2 ^ 7 := Nat.pow_le_pow_right (by decide) hn
  rcases p_fam hn t0 x with ⟨f, hf, rfl, e8, e9⟩ | ⟨-, e8, e9⟩
  · unfold f_X8_block f_X9_block
    rw [p_refusal hn hf h (by decide) (by decide) e8, e9, bs, bs, if_neg (show ¬ (1 : Int32) = 0 by decide), p_isFrozen9 (by omega) (hs f (by omega)) (hb f), bs]
    by_cases hz' : h f = 0
    · rw [if_pos hz', if_neg (by decide), if_pos hz', if_neg (by decide)]
      exact ⟨_, rfl, rfl⟩
    · have hol : oset n h f < 128 := setOf_lt7 _ hn
      have h2 : 2 ^ f < 2 ^ 7 := Nat.pow_lt_pow_right (by decide) (by omega)
      rw [if_neg hz', if_pos rfl, if_neg hz', if_pos rfl, p_others hn hf h, bs, p_bit f (by omega), bs, p_cold5 hc (by omega) hcs, bs, p_or (by omega) (by omega), oset_or hn hf hz', p_alive hn t0 hs hb, bs]
      have a := p_bl8_loop (c := c) (d := d) (colds := colds) (h := h) hn hf hw hcd (nI c) (nI d) (nI (zset n h)) (2 ^ n) 0 5000 (by omega) (by omega)
      have b := p_bl9_loop (h := h) hn hf hc (show d < 1024 by omega) t0 t2 s14 (fun k hk => by rw [tw k (by omega)]; exact hw k hk) (fun j hj => by rw [tc j (by omega)]; exact hcs j hj) hcd (2 ^ n) 0 5000 (by omega) (by omega)
      exact ⟨_, a, b⟩
  · refine ⟨-2, ?_, ?_⟩
    · unfold f_X8_block f_X8_refusalFor
      rw [e8]; rfl
    · unfold f_X9_block
      rw [e9]; rfl
