abbrev oset (n : Nat) (h : Nat → Nat) (f : Nat) : Nat := setOf n (fun k => !(h k == 0) && !(k == f))
theorem p_others {n f : Nat} (hn : n ≤ 7) (hf : f < n) (h : Nat → Nat) : f_X8_othersThan (nI n) (nI (zset n h)) (nI f) = some (nI (oset n h f)) := by
  unfold f_X8_othersThan
  have hp : 2 ^ n ≤ 2 ^ 7 := Nat.pow_le_pow_right (by decide) hn
  rw [(p_all n hn).1, bs, p_bit f (by omega), bs, p_compl n hn _ (setOf_lt _ n), setOf_not]
  have h2 : 2 ^ f < 2 ^ n := Nat.pow_lt_pow_right (by decide) hf
  have e : 2 ^ f = setOf n (fun k => k == f) := by
    apply setOf_ext (n := n) h2 (setOf_lt _ n)
    intro k hk
    rw [setOf_bit, Nat.testBit_two_pow]
    by_cases q : k = f
    · subst q; simp [hk]
    · have q' : ¬ f = k := fun z => q z.symm
      have q2 : (k == f) = false := by simp [q]
      simp [q', q2]
  rw [e, p_andn hn (setOf_lt _ n)]
  congr 2
  apply setOf_ext (n := n) (Nat.and_lt_two_pow _ (setOf_lt _ n)) (setOf_lt _ n)
  intro k hk
  rw [Nat.testBit_and, setOf_bit, setOf_bit, setOf_bit]
  simp [hk]
theorem wsum_or {t : Nat → Int32} {s f : Nat} (hb : s.testBit f = false) : ∀ n, wsum t (s ||| 2 ^ f) n = wsum t s n + (if f < n then t f else 0) := by
  intro n
  induction n with
  | zero => rfl
  | succ n ih =>
    rw [wsum, wsum, ih, Nat.testBit_or, Nat.testBit_two_pow]
    by_cases e : f = n
    · subst e
      rw [hb]
      simp
    · have e' : (decide (f = n)) = false := by simp [e]
      rw [e']
      by_cases q : f < n
      · have q2 : f < n + 1 := by omega
        simp only [if_pos q, if_pos q2, Bool.or_false]
        generalize wsum t s n = a
        generalize t f = b
        generalize (if s.testBit n = true then t n else 0) = c
        grind
      · have q2 : ¬ f < n + 1 := by omega
        simp only [if_neg q, if_neg q2, Bool.or_false, Int32.add_zero]
def swB (kinds : Nat → Int32) (q n d : Nat) (h : Nat → Nat) (f s : Nat) : Bool := decide (s &&& oset n h f = s) && (!decide (nI q ≤ wSet kinds n d s) && !decide (wSet kinds n d s + wtI (kinds f) (d % 2 == 1) < nI q))
theorem p_swing8 {n q d f s : Nat} (hn : n ≤ 7) (hf : f < n) (hd : d < 1024) (hs : s < 128) (kinds : Nat → Int32) : f_X8_isSwing (nI d) (nI n) (nI q) kinds (nI s) (nI f) = some (b2 (!decide (nI q ≤ wSet kinds n d s) && !decide (wSet kinds n d s + wtI (kinds f) (d % 2 == 1) < nI q))) := by
  unfold f_X8_isSwing
  rw [p_night7 d hd, bs, p_weightOfSet hn (by omega), bs, p_weightOf kinds _ (by omega), bs]
  show (if nI q ≤ wSet kinds n d s then some 0 else if wSet kinds n d s + _ < nI q then some 0 else some 1) = _
  by_cases h1 : nI q ≤ wSet kinds n d s
  · simp [h1, b2]
  · by_cases h2 : wSet kinds n d s + wtI (kinds f) (d % 2 == 1) < nI q <;> simp [h1, h2, b2]
theorem sub_oset {n f s : Nat} (h : Nat → Nat) (hs : s < 2 ^ n) : (s &&& oset n h f = s) ↔ (s.testBit f = false ∨ n ≤ f) ∧ s &&& aset n h = s := by
  have bit : ∀ (a b : Nat), (a &&& b = a) ↔ ∀ k, a.testBit k = true → b.testBit k = true := by
    intro a b
    constructor
    · intro e k hk
      have := congrArg (fun z => z.testBit k) e
      simp only [Nat.testBit_and, hk, Bool.true_and] at this
      exact this
    · intro e
      apply Nat.eq_of_testBit_eq
      intro k
      rw [Nat.testBit_and]
      cases hk : a.testBit k with
      | false => rfl
      | true => rw [e k hk]; rfl
  rw [bit, bit]
  constructor
  · intro e
    refine ⟨?_, fun k hk => ?_⟩
    · by_cases q : n ≤ f
      · exact Or.inr q
      · left
        cases hb : s.testBit f with
        | false => rfl
        | true =>
          have := e f hb
          rw [setOf_bit] at this
          simp at this
    · have := e k hk
      rw [setOf_bit] at this ⊢
      simp at this ⊢
      exact ⟨this.1, this.2.1⟩
  · rintro ⟨e1, e2⟩ k hk
    have := e2 k hk
    rw [setOf_bit] at this ⊢
    simp at this ⊢
    refine ⟨this.1, this.2, ?_⟩
    intro q
    subst q
    rcases e1 with e1 | e1
    · rw [e1] at hk; cases hk
    · omega
theorem p_subset {a b n : Nat} (hn : n ≤ 7) (ha : a < 2 ^ n) (hb : b < 2 ^ n) : ((nI a &&& (nI b ^^^ (-1))) = 0) ↔ a &&& b = a := by
  have hp : 2 ^ n ≤ 2 ^ 7 := Nat.pow_le_pow_right (by decide) hn
  have key := p_within a (by omega) b (by omega)
  unfold f_X8_isWithin at key
  by_cases h1 : (nI a &&& (nI b ^^^ (-1))) = 0
  · rw [if_pos h1] at key
    by_cases h2 : a &&& b = a
    · exact ⟨fun _ => h2, fun _ => h1⟩
    · rw [if_neg h2] at key
      exact absurd (Option.some.inj key) (by decide)
  · rw [if_neg h1] at key
    by_cases h2 : a &&& b = a
    · rw [if_pos h2] at key
      exact absurd (Option.some.inj key) (by decide)
    · exact ⟨fun q => absurd q h1, fun q => absurd q h2⟩
theorem p_swing9 {n q d f s : Nat} (hn : n ≤ 7) (hf : f < n) (hd : d < 1024) (hs : s < 2 ^ n) {told st kinds : Nat → Int32} {h : Nat → Nat} (t0 : told 0 = nI n) (t1 : told 1 = nI q) (s14 : st 14 = nI d) (tk : ∀ f, f < 7 → told (3 + f) = kinds f) (hst : ∀ k, k < 7 → st k = nI (h k)) (hb : ∀ k, h k ≤ 20) : f_X9_isSwing told st (nI s) (nI f) = some (b2 (swB kinds q n d h f s)) := by
  have hp : 2 ^ n ≤ 2 ^ 7 := Nat.pow_le_pow_right (by decide) hn
  unfold f_X9_isSwing f_X9_isSwing_b23 f_X9_isSwing_b24
  rw [p_has s (by omega) f (by omega), bs, p_alive hn t0 hst hb, bs]
  unfold swB
  have hsub := sub_oset (f := f) h hs
  by_cases hbt : s.testBit f = true
  · have : ¬ (s &&& oset n h f = s) := fun q => by
      have := (hsub.mp q).1
      rw [hbt] at this
      rcases this with z | z
      · cases z
      · omega
    rw [if_pos hbt, if_neg (by decide), if_pos rfl]
    simp [this, b2]
  · have hbf : s.testBit f = false := by simpa using hbt
    rw [if_neg hbt, if_pos rfl]
    by_cases ha : s &&& aset n h = s
    · have hin : s &&& oset n h f = s := hsub.mpr ⟨Or.inl hbf, ha⟩
      have h2 : 2 ^ f < 2 ^ 7 := Nat.pow_lt_pow_right (by decide) (by omega)
      have hor : s ||| 2 ^ f < 128 := Nat.or_lt_two_pow (n := 7) (by omega) (by omega)
      rw [if_pos ((p_subset hn hs (setOf_lt _ n)).mpr ha), if_neg (by decide), p_weights9 hn hd (by omega) t0 s14 tk, bs, t1, p_bits2 f (by omega), p_or (by omega) (by omega), p_weights9 hn hd (by omega) t0 s14 tk, bs]
      have e : wSet kinds n d (s ||| 2 ^ f) = wSet kinds n d s + wtI (kinds f) (d % 2 == 1) := by
        unfold wSet
        rw [wsum_or hbf n, if_pos hf]
      rw [e]
      by_cases h1 : nI q ≤ wSet kinds n d s
      · simp [h1, b2]
      · by_cases h3 : wSet kinds n d s + wtI (kinds f) (d % 2 == 1) < nI q <;> simp [h1, h3, hin, b2]
    · have hin : ¬ s &&& oset n h f = s := fun q => ha (hsub.mp q).2
      rw [if_neg (fun q => ha ((p_subset hn hs (setOf_lt _ n)).mp q)), if_pos rfl]
      simp [hin, b2]
def cntB (P : Nat → Bool) : Nat → Nat
  | 0 => 0
  | k + 1 => cntB P k + (if P k then 1 else 0)
theorem p_sw8_loop {n q d f : Nat} (hn : n ≤ 7) (hf : f < n) (hd : d < 1024) (kinds : Nat → Int32) (h : Nat → Nat) (z : Int32) : ∀ (m k F : Nat), k + m = 2 ^ n → m < F → f_X8_swings_b26 (nI n) (nI q) (nI d) z kinds F (nI f) (nI (oset n h f)) (nI (cntB (swB kinds q n d h f) k)) (nI k) = some (nI (cntB (swB kinds q n d h f) (2 ^ n))) := by
  have hp : 2 ^ n ≤ 2 ^ 7 := Nat.pow_le_pow_right (by decide) hn
  have hp1 : 0 < 2 ^ n := Nat.pos_of_ne_zero (by simp)
  have hlt : oset n h f < 2 ^ n := setOf_lt _ n
  intro m
  induction m with
  | zero =>
    intro k F hk hF
    obtain ⟨F, rfl⟩ : ∃ F', F = F' + 1 := ⟨F - 1, by omega⟩
    obtain rfl : k = 2 ^ n := by omega
    show f_X8_swings_s26 (nI n) (nI q) (nI d) z kinds (f_X8_swings_b26 (nI n) (nI q) (nI d) z kinds F) _ _ _ _ = _
    unfold f_X8_swings_s26
    rw [(p_all n hn).1, bs, if_pos (nI_lt (by omega) (by omega))]
  | succ m ih =>
    intro k F hk hF
    obtain ⟨F, rfl⟩ : ∃ F', F = F' + 1 := ⟨F - 1, by omega⟩
    show f_X8_swings_s26 (nI n) (nI q) (nI d) z kinds (f_X8_swings_b26 (nI n) (nI q) (nI d) z kinds F) _ _ _ _ = _
    unfold f_X8_swings_s26 f_X8_swings_b60
    have h2 := ih (k + 1) F (by omega) (by omega)
    rw [cntB] at h2
    rw [(p_all n hn).1, bs, if_neg (nI_nlt (by omega) (by omega)), p_within k (by omega) _ (by omega), bs, p_swing8 hn hf hd (by omega), bs]
    simp only [nI_1]
    by_cases h1 : k &&& oset n h f = k
    · rw [if_pos h1, if_neg (by decide)]
      have e : swB kinds q n d h f k = (!decide (nI q ≤ wSet kinds n d k) && !decide (wSet kinds n d k + wtI (kinds f) (d % 2 == 1) < nI q)) := by unfold swB; simp [h1]
      rw [← e]
      cases hb : swB kinds q n d h f k with
      | true => rw [hb] at h2; exact h2
      | false => rw [hb] at h2; exact h2
    · have e : swB kinds q n d h f k = false := by unfold swB; simp [h1]
      rw [if_neg h1, if_pos rfl]
      rw [e] at h2
      exact h2
theorem p_sw9_loop {n q d f : Nat} (hn : n ≤ 7) (hf : f < n) (hd : d < 1024) {told st kinds : Nat → Int32} {h : Nat → Nat} (t0 : told 0 = nI n) (t1 : told 1 = nI q) (s14 : st 14 = nI d) (tk : ∀ f, f < 7 → told (3 + f) = kinds f) (hst : ∀ k, k < 7 → st k = nI (h k)) (hb : ∀ k, h k ≤ 20) : ∀ (m k F : Nat), k + m = 2 ^ n → m < F → f_X9_swings_b26 told st F (nI f) (nI (cntB (swB kinds q n d h f) k)) (nI k) = some (nI (cntB (swB kinds q n d h f) (2 ^ n))) := by
  have hp : 2 ^ n ≤ 2 ^ 7 := Nat.pow_le_pow_right (by decide) hn
  intro m
  induction m with
  | zero =>
    intro k F hk hF
    obtain ⟨F, rfl⟩ : ∃ F', F = F' + 1 := ⟨F - 1, by omega⟩
    obtain rfl : k = 2 ^ n := by omega
    show f_X9_swings_s26 told st (f_X9_swings_b26 told st F) _ _ _ = _
    unfold f_X9_swings_s26
    rw [t0, (p_all n hn).2.1, if_pos (nI_le (Nat.le_refl _) (by omega))]
  | succ m ih =>
    intro k F hk hF
    obtain ⟨F, rfl⟩ : ∃ F', F = F' + 1 := ⟨F - 1, by omega⟩
    show f_X9_swings_s26 told st (f_X9_swings_b26 told st F) _ _ _ = _
    unfold f_X9_swings_s26 f_X9_swings_b53
    have h2 := ih (k + 1) F (by omega) (by omega)
    rw [cntB] at h2
    rw [t0, (p_all n hn).2.1, if_neg (nI_ge (by omega) (by omega)), p_swing9 hn hf hd (by omega) t0 t1 s14 tk hst hb, bs]
    simp only [nI_1, Int32.add_zero]
    cases hsw : swB kinds q n d h f k with
    | true => rw [hsw] at h2; exact h2
    | false => rw [hsw] at h2; exact h2
theorem q_swings {n q c d : Nat} {wn cd h : Nat → Nat} {lt lk : Nat → Nat → Bool} {fam quota cc date frozen : Int32} {kinds warmths prices tfav colds told healths fav st : Nat → Int32} (T : TOR n q c wn cd lt fam quota cc kinds warmths prices tfav colds told) (Wi : WIR n d h lk date frozen healths fav st) (x : Int32) : ∃ r, f_X8_swings fam quota date frozen kinds x = some r ∧ f_X9_swings told st x = some r := by
  obtain ⟨hn, hq, hc, ⟨rfl, rfl, rfl⟩, ⟨t0, t1, t2⟩, tk, tw, tp, tc, hw, hkd, hcs, hcd, hF, hL⟩ := T
  obtain ⟨hd, rfl, s14, rfl, hh, hs, hb, hz, wF, wL, hlk⟩ := Wi
  have hp : 2 ^ n ≤ 2 ^ 7 := Nat.pow_le_pow_right (by decide) hn
  rcases p_fam hn t0 x with ⟨f, hf, rfl, e8, e9⟩ | ⟨-, e8, e9⟩
  · unfold f_X8_swings f_X9_swings
    rw [p_refusal hn hf h (by decide) (by decide) e8, e9, bs, bs, if_neg (show ¬ (1 : Int32) = 0 by decide), p_isFrozen9 (by omega) (hs f (by omega)) (hb f), bs]
    by_cases hz' : h f = 0
    · rw [if_pos hz', if_neg (by decide), if_pos hz', if_neg (by decide)]
      exact ⟨_, rfl, rfl⟩
    · rw [if_neg hz', if_pos rfl, if_neg hz', if_pos rfl, p_others hn hf h, bs]
      have a := p_sw8_loop (q := q) hn hf (show d < 1024 by omega) kinds h (nI (zset n h)) (2 ^ n) 0 5000 (by omega) (by omega)
      have b := p_sw9_loop (q := q) hn hf (show d < 1024 by omega) t0 t1 s14 tk hs hb (2 ^ n) 0 5000 (by omega) (by omega)
      exact ⟨_, a, b⟩
  · refine ⟨-2, ?_, ?_⟩
    · unfold f_X8_swings f_X8_refusalFor
      rw [e8]; rfl
    · unfold f_X9_swings
      rw [e9]; rfl
