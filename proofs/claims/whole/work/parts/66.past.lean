theorem bd2s {A0 A1 R : Type} (a0 : A0) (a1 : A1) (k : A0 → A1 → Option R) : bd2 (some (a0, a1)) k = k a0 a1 := rfl
theorem bd3s {A0 A1 A2 R : Type} (a0 : A0) (a1 : A1) (a2 : A2) (k : A0 → A1 → A2 → Option R) : bd3 (some (a0, a1, a2)) k = k a0 a1 a2 := rfl
theorem bd6s {A0 A1 A2 A3 A4 A5 R : Type} (a0 : A0) (a1 : A1) (a2 : A2) (a3 : A3) (a4 : A4) (a5 : A5) (k : A0 → A1 → A2 → A3 → A4 → A5 → Option R) : bd6 (some (a0, a1, a2, a3, a4, a5)) k = k a0 a1 a2 a3 a4 a5 := rfl
theorem gdx_nI {α : Type} {k N : Nat} {x : Nat → Option α} (h : k < N) (hN : N < 2 ^ 31) : gdx_ (nI k) N x = x k := by
  unfold gdx_
  rw [if_neg (vp_in_nI h hN), cl (by omega)]
def WIX (n : Nat) (date frozen : Int32) (healths fav st : Nat → Int32) : Prop := ∃ d h lk, WIR n d h lk date frozen healths fav st
theorem WIX_same {n : Nat} {date frozen : Int32} {healths fav st healths' fav' st' : Nat → Int32} (W : WIX n date frozen healths fav st) (e1 : ∀ k, k < 7 → healths' k = healths k) (e2 : ∀ k, k < 7 → fav' k = fav k) (e3 : ∀ k, k < 15 → st' k = st k) : WIX n date frozen healths' fav' st' := by
  obtain ⟨d, h, lk, hd, a1, a2, a3, a4, a5, a6, a7, a8, a9, a10⟩ := W
  refine ⟨d, h, lk, hd, a1, ?_, a3, ?_, ?_, a6, a7, ?_, ?_, a10⟩
  · rw [e3 14 (by omega)]; exact a2
  · intro k hk; rw [e1 k hk]; exact a4 k hk
  · intro k hk; rw [e3 k (by omega)]; exact a5 k hk
  · intro k hk; rw [e2 k hk]; exact a8 k hk
  · intro k hk; rw [e3 (7 + k) (by omega)]; exact a9 k hk
def PAR (n : Nat) (size newest : Int32) (uD uF : Nat → Int32) (uH uV : Nat → Nat → Int32) (many : Int32) (ahead : Nat → Int32) : Prop := ∃ u nw, u ≤ 8 ∧ nw < 8 ∧ size = nI u ∧ newest = nI nw ∧ many = nI u ∧ ∀ i, i < u → WIX n (uD ((nw + 9 + i - u) % 8)) (uF ((nw + 9 + i - u) % 8)) (uH ((nw + 9 + i - u) % 8)) (uV ((nw + 9 + i - u) % 8)) (fun k => ahead (15 * i + k))
theorem p_15 : ∀ u, u < 8 → (15 : Int32) * nI u = nI (15 * u) := by decide +kernel
theorem p_note_cp {u : Nat} (hu : u < 8) (st : Nat → Int32) : ∀ (m k F : Nat) (ah : Nat → Int32), k + m = 15 → m < F → ∃ ah', f_X9_note_b50 st F (nI k) (nI u) ah = some (nI (u + 1), ah') ∧ ∀ j, ah' j = if 15 * u + k ≤ j ∧ j < 15 * u + 15 then st (j - 15 * u) else ah j := by
  intro m
  induction m with
  | zero =>
    intro k F ah hk hF
    obtain ⟨F, rfl⟩ : ∃ F', F = F' + 1 := ⟨F - 1, by omega⟩
    obtain rfl : k = 15 := by omega
    refine ⟨ah, ?_, fun j => by rw [if_neg (by omega)]⟩
    show f_X9_note_s50 st (f_X9_note_b50 st F) (nI 15) (nI u) ah = _
    unfold f_X9_note_s50
    rw [if_pos (show (15 : Int32) ≤ nI 15 by decide), nI_1]
  | succ m ih =>
    intro k F ah hk hF
    obtain ⟨F, rfl⟩ : ∃ F', F = F' + 1 := ⟨F - 1, by omega⟩
    obtain ⟨ah', e1, e2⟩ := ih (k + 1) F (upd ah (15 * u + k) (st k)) (by omega) (by omega)
    refine ⟨ah', ?_, fun j => ?_⟩
    · show f_X9_note_s50 st (f_X9_note_b50 st F) (nI k) (nI u) ah = _
      unfold f_X9_note_s50
      rw [if_neg (show ¬ (15 : Int32) ≤ nI k from nI_ge (a := k) (b := 15) (by omega) (by omega)), gd_nI (by omega) (by omega), p_15 u hu, nI_add, gd_nI (by omega) (by omega), cl (by omega), cl (by omega), nI_1]
      exact e1
    · rw [e2 j]
      by_cases hj : j = 15 * u + k
      · subst hj
        rw [if_neg (by omega), if_pos (by omega), pk_us]
        exact congrArg st (by omega)
      · rw [pk_un hj]
        by_cases q : 15 * u + (k + 1) ≤ j ∧ j < 15 * u + 15
        · rw [if_pos q, if_pos (by omega)]
        · rw [if_neg q, if_neg (by omega)]
theorem p_note_sh (st : Nat → Int32) (um : Int32) : ∀ (m k F : Nat) (ah : Nat → Int32), k + m = 105 → m < F → ∃ A, f_X9_note_b11 st F (nI k) um ah = f_X9_note_b48 st (um - 1) A ∧ ∀ j, A j = if k ≤ j ∧ j < 105 then ah (j + 15) else ah j := by
  intro m
  induction m with
  | zero =>
    intro k F ah hk hF
    obtain ⟨F, rfl⟩ : ∃ F', F = F' + 1 := ⟨F - 1, by omega⟩
    refine ⟨ah, ?_, fun j => by rw [if_neg (by omega)]⟩
    show f_X9_note_s11 st (f_X9_note_b11 st F) (nI k) um ah = _
    unfold f_X9_note_s11
    rw [if_pos (show (105 : Int32) ≤ nI k from nI_le (a := 105) (b := k) (by omega) (by omega))]
  | succ m ih =>
    intro k F ah hk hF
    obtain ⟨F, rfl⟩ : ∃ F', F = F' + 1 := ⟨F - 1, by omega⟩
    obtain ⟨A, e1, e2⟩ := ih (k + 1) F (upd ah k (ah (k + 15))) (by omega) (by omega)
    refine ⟨A, ?_, fun j => ?_⟩
    · show f_X9_note_s11 st (f_X9_note_b11 st F) (nI k) um ah = _
      unfold f_X9_note_s11
      have e15 : nI k + 15 = nI (k + 15) := nI_add k 15
      rw [if_neg (show ¬ (105 : Int32) ≤ nI k from nI_ge (a := k) (b := 105) (by omega) (by omega)), e15, gd_nI (by omega) (by omega), gd_nI (by omega) (by omega), cl (by omega), cl (by omega), nI_1]
      exact e1
    · rw [e2 j]
      by_cases hj : j = k
      · subst hj
        rw [if_neg (by omega), if_pos (by omega), pk_us]
      · by_cases q : k + 1 ≤ j ∧ j < 105
        · rw [if_pos q, if_pos (by omega), pk_un (by omega)]
        · rw [if_neg q, if_neg (by omega), pk_un hj]
theorem p_note {u : Nat} (hu : u ≤ 8) (st ah : Nat → Int32) : ∃ ah', f_X9_note (nI u) ah st = some (nI (if u = 8 then 8 else u + 1), ah') ∧ (∀ i k, i < (if u = 8 then 7 else u) → k < 15 → ah' (15 * i + k) = ah (15 * (if u = 8 then i + 1 else i) + k)) ∧ ∀ k, k < 15 → ah' (15 * (if u = 8 then 7 else u) + k) = st k := by
  unfold f_X9_note f_X9_note_b48
  by_cases h8 : u = 8
  · subst h8
    rw [if_pos (show nI 8 = 8 from rfl)]
    obtain ⟨A, e1, e2⟩ := p_note_sh st (nI 8) 105 0 5000 ah (by omega) (by omega)
    obtain ⟨ah', e3, e4⟩ := p_note_cp (u := 7) (by omega) st 15 0 5000 A (by omega) (by omega)
    refine ⟨ah', ?_, fun i k hi hk => ?_, fun k hk => ?_⟩
    · rw [nI_0] at e1
      rw [e1]
      unfold f_X9_note_b48
      rw [nI_0] at e3
      rw [show nI 8 - 1 = nI 7 by decide, e3]
      rfl
    · simp only [eq_self, if_true] at hi ⊢
      rw [e4 _, if_neg (by omega), e2 _, if_pos (by omega)]
      exact congrArg ah (by omega)
    · simp only [eq_self, if_true]
      rw [e4 _, if_pos (by omega)]
      exact congrArg st (by omega)
  · rw [if_neg (show ¬ nI u = 8 from fun q => h8 ((nI_eq (a := u) (b := 8) (by omega) (by omega)).mp q))]
    obtain ⟨ah', e3, e4⟩ := p_note_cp (u := u) (by omega) st 15 0 5000 ah (by omega) (by omega)
    refine ⟨ah', ?_, fun i k hi hk => ?_, fun k hk => ?_⟩
    · rw [nI_0] at e3
      rw [if_neg h8, e3]
    · rw [if_neg h8] at hi ⊢
      rw [e4 _, if_neg (by omega)]
    · rw [if_neg h8, e4 _, if_pos (by omega)]
      exact congrArg st (by omega)
theorem p_ring : ∀ k, k < 8 → (nI k + 1) - (nI k + 1) / 8 * 8 = nI ((k + 1) % 8) ∧ ((nI k + 8) - 1) - ((nI k + 8) - 1) / 8 * 8 = nI ((k + 7) % 8) := by decide +kernel
theorem p_sz : ∀ u, u ≤ 8 → (if (8 : Int32) < nI u + 1 then (8 : Int32) else nI u + 1) = nI (if u = 8 then 8 else u + 1) := by decide +kernel
theorem cpy7 {f g : Nat → Int32} {k : Nat} (hk : k < 7) : va_cpy f g 0 0 7 k = f k := by
  unfold va_cpy
  rw [if_pos (by omega)]
  exact congrArg f (by omega)
theorem p_remember {n : Nat} {size newest many date frozen : Int32} {uD uF ahead healths fav st : Nat → Int32} {uH uV : Nat → Nat → Int32} (P : PAR n size newest uD uF uH uV many ahead) (W : WIX n date frozen healths fav st) : ∃ newest' size' uD' uF' uH' uV' many' ahead', f_X1_remember newest size date frozen uD uF healths uH fav uV = some (newest', size', uD', uF', uH', uV') ∧ f_X9_note many ahead st = some (many', ahead') ∧ PAR n size' newest' uD' uF' uH' uV' many' ahead' := by
  obtain ⟨u, nw, hu, hnw, rfl, rfl, rfl, hi⟩ := P
  obtain ⟨ah', e1, e2, e3⟩ := p_note hu st ahead
  unfold f_X1_remember
  rw [(p_ring nw hnw).1, gdx_nI (Nat.mod_lt _ (by omega)) (by omega), p_sz u hu]
  unfold f_X7_copyFrom
  rw [bd4s]
  refine ⟨_, _, _, _, _, _, _, _, rfl, e1, (if u = 8 then 8 else u + 1), (nw + 1) % 8, by split <;> omega, Nat.mod_lt _ (by omega), rfl, rfl, rfl, fun i hi' => ?_⟩
  by_cases h8 : u = 8
  · subst h8
    simp only [eq_self, if_true] at hi' e2 e3 ⊢
    by_cases h7 : i = 7
    · subst h7
      have e : ((nw + 1) % 8 + 9 + 7 - 8) % 8 = (nw + 1) % 8 := by omega
      rw [e, va_up_self, va_up_self, va_up_self, va_up_self]
      exact WIX_same W (fun k hk => cpy7 hk) (fun k hk => cpy7 hk) (fun k hk => e3 k hk)
    · have e : ((nw + 1) % 8 + 9 + i - 8) % 8 = (nw + 9 + (i + 1) - 8) % 8 := by omega
      have hne : (nw + 9 + (i + 1) - 8) % 8 ≠ (nw + 1) % 8 := by omega
      rw [e, va_up_ne _ _ hne, va_up_ne _ _ hne, va_up_ne _ _ hne, va_up_ne _ _ hne]
      exact WIX_same (hi (i + 1) (by omega)) (fun k hk => rfl) (fun k hk => rfl) (fun k hk => e2 i k (by omega) hk)
  · rw [if_neg h8] at hi' ⊢
    rw [if_neg h8] at e3
    by_cases h7 : i = u
    · subst h7
      have e : ((nw + 1) % 8 + 9 + i - (i + 1)) % 8 = (nw + 1) % 8 := by omega
      rw [e, va_up_self, va_up_self, va_up_self, va_up_self]
      exact WIX_same W (fun k hk => cpy7 hk) (fun k hk => cpy7 hk) (fun k hk => e3 k hk)
    · have e : ((nw + 1) % 8 + 9 + i - (u + 1)) % 8 = (nw + 9 + i - u) % 8 := by omega
      have hne : (nw + 9 + i - u) % 8 ≠ (nw + 1) % 8 := by omega
      rw [e, va_up_ne _ _ hne, va_up_ne _ _ hne, va_up_ne _ _ hne, va_up_ne _ _ hne]
      exact WIX_same (hi i (by omega)) (fun k hk => rfl) (fun k hk => rfl) (fun k hk => by
        have := e2 i k (by rw [if_neg h8]; omega) hk
        rw [if_neg h8] at this
        exact this)
def lkU (lk : Nat → Nat → Bool) (f g : Nat) (on : Bool) (a b : Nat) : Bool := if a = f ∧ b = g then on else lk a b
theorem bit_on : ∀ s, s < 128 → ∀ k, k < 7 → s ||| 2 ^ k < 128 ∧ s - (s &&& 2 ^ k) < 128 ∧ ∀ j, j < 7 → (s ||| 2 ^ k).testBit j = (s.testBit j || (j == k)) ∧ (s - (s &&& 2 ^ k)).testBit j = (s.testBit j && !(j == k)) := by decide +kernel
def bitU (s k : Nat) (on : Bool) : Nat := if on then s ||| 2 ^ k else s - (s &&& 2 ^ k)
theorem bitU_lt {s k : Nat} {on : Bool} (hs : s < 128) (hk : k < 7) : bitU s k on < 128 := by
  unfold bitU
  cases on
  · exact (bit_on s hs k hk).2.1
  · exact (bit_on s hs k hk).1
theorem bitU_bit {s k j : Nat} {on : Bool} (hs : s < 128) (hk : k < 7) (hj : j < 7) : (bitU s k on).testBit j = if j = k then on else s.testBit j := by
  unfold bitU
  obtain ⟨-, -, h⟩ := bit_on s hs k hk
  cases on
  · rw [if_neg (by decide), (h j hj).2]
    by_cases e : j = k <;> simp [e]
  · rw [if_pos rfl, (h j hj).1]
    by_cases e : j = k <;> simp [e]
theorem p_withU {s k : Nat} (hs : s < 128) (hk : k < 7) (on : Bool) : f_X8_with (nI s) (nI k) (b2 on) = some (nI (bitU s k on)) := by
  cases on
  · exact p_with0 s hs k hk
  · exact p_with1 s hs k hk
theorem p_ref1 : ∀ s, s < 128 → ∀ k, k < 7 → ((nI s >>> (nI k &&& 31)) &&& 1) = (if s.testBit k then 1 else 0) ∧ ((nI s &&& (((1 : Int32) <<< (nI k &&& 31)) ^^^ (-1))) ||| ((1 : Int32) <<< (nI k &&& 31))) = nI (s ||| 2 ^ k) ∧ ((nI s &&& (((1 : Int32) <<< (nI k &&& 31)) ^^^ (-1))) ||| ((0 : Int32) <<< (nI k &&& 31))) = nI (s - (s &&& 2 ^ k)) := by decide +kernel
theorem fset_U {n f g b : Nat} (hn : n ≤ 7) (hf : f < n) {lk : Nat → Nat → Bool} (on : Bool) : (if b = g then bitU (fset n lk g) f on else fset n lk b) = fset n (lkU lk f g on) b := by
  by_cases e : b = g
  · subst e
    rw [if_pos rfl]
    have hlt : fset n lk b < 128 := setOf_lt7 _ hn
    apply setOf_ext (n := 7) (bitU_lt hlt (by omega)) (setOf_lt7 _ hn)
    intro k hk
    rw [bitU_bit hlt (by omega) hk, setOf_bit, setOf_bit]
    unfold lkU
    by_cases e2 : k = f
    · subst e2; simp [hf]
    · simp [e2]
  · rw [if_neg e]
    apply setOf_congr
    intro k hk
    unfold lkU
    rw [if_neg (fun q => e q.2)]
theorem lset_U {n f g a : Nat} (hn : n ≤ 7) (hg : g < n) {lk : Nat → Nat → Bool} (on : Bool) : (if a = f then bitU (lset n lk f) g on else lset n lk a) = lset n (lkU lk f g on) a := by
  by_cases e : a = f
  · subst e
    rw [if_pos rfl]
    have hlt : lset n lk a < 128 := setOf_lt7 _ hn
    apply setOf_ext (n := 7) (bitU_lt hlt (by omega)) (setOf_lt7 _ hn)
    intro k hk
    rw [bitU_bit hlt (by omega) hk, setOf_bit, setOf_bit]
    unfold lkU
    by_cases e2 : k = g
    · subst e2; simp [hg]
    · simp [e2]
  · rw [if_neg e]
    apply setOf_congr
    intro k hk
    unfold lkU
    rw [if_neg (fun q => e q.1)]
theorem q_favour {n q c : Nat} {wn cd : Nat → Nat} {lt : Nat → Nat → Bool} {fam quota cc date frozen size newest many : Int32} {kinds warmths prices tfav colds told healths fav st uD uF ahead : Nat → Int32} {uH uV : Nat → Nat → Int32} (T : TOR n q c wn cd lt fam quota cc kinds warmths prices tfav colds told) (W : WIX n date frozen healths fav st) (P : PAR n size newest uD uF uH uV many ahead) (x y z : Int32) : ∃ r newest' size' uD' uF' uH' fav' uV' many' st' ahead', f_X8_favour fam date frozen newest size uD uF healths uH fav uV x y z = some (r, newest', size', uD', uF', uH', fav', uV') ∧ f_X9_favour many told st ahead x y z = some (r, many', st', ahead') ∧ WIX n date frozen healths fav' st' ∧ PAR n size' newest' uD' uF' uH' uV' many' ahead' := by
  have W0 := W
  obtain ⟨d, h, lk, Wi⟩ := W
  obtain ⟨hn, hq, hc, ⟨rfl, rfl, rfl⟩, ⟨t0, t1, t2⟩, tk, tw, tp, tc, hw, hkd, hcs, hcd, hF, hL⟩ := T
  obtain ⟨hd, rfl, s14, rfl, hh, hs, hb, hz, wF, wL, hlk⟩ := Wi
  unfold f_X8_favour f_X9_favour
  rcases p_fam hn t0 x with ⟨f, hf, rfl, e8, e9⟩ | ⟨-, e8, e9⟩
  · rw [e8, e9, bs, bs, if_neg (show ¬ (1 : Int32) = 0 by decide), if_neg (show ¬ (1 : Int32) = 0 by decide)]
    rcases p_fam hn t0 y with ⟨g, hg, rfl, g8, g9⟩ | ⟨-, g8, g9⟩
    · rw [g8, g9, bs, bs, if_neg (show ¬ (1 : Int32) = 0 by decide), if_neg (show ¬ (1 : Int32) = 0 by decide)]
      by_cases hfg : f = g
      · rw [if_pos (by rw [hfg]), if_pos (by rw [hfg])]
        exact ⟨_, _, _, _, _, _, _, _, _, _, _, rfl, rfl, W0, P⟩
      · have hne : ¬ nI f = nI g := fun q => hfg ((nI_eq (by omega) (by omega)).mp q)
        rw [if_neg hne, if_neg hne]
        rcases p_yn z with ⟨on, rfl, y8, y9⟩ | ⟨y8, y9⟩
        · rw [y8, y9, bs, bs, if_neg (show ¬ (1 : Int32) = 0 by decide), if_neg (show ¬ (1 : Int32) = 0 by decide), p_isFrozen7 hn hf h, p_isFrozen7 hn hg h, p_isFrozen9 (by omega) (hs f (by omega)) (hb f), p_isFrozen9 (by omega) (hs g (by omega)) (hb g), bs, bs, bs, bs]
          by_cases z1 : h f = 0
          · rw [if_pos z1, if_neg (show ¬ (1 : Int32) = 0 by decide), if_neg (show ¬ (1 : Int32) = 0 by decide)]
            exact ⟨_, _, _, _, _, _, _, _, _, _, _, rfl, rfl, W0, P⟩
          · rw [if_neg z1]
            simp only [eq_self, if_true]
            by_cases z2 : h g = 0
            · rw [if_pos z2, if_neg (show ¬ (1 : Int32) = 0 by decide), if_neg (show ¬ (1 : Int32) = 0 by decide)]
              exact ⟨_, _, _, _, _, _, _, _, _, _, _, rfl, rfl, W0, P⟩
            · rw [if_neg z2]
              simp only [eq_self, if_true]
              obtain ⟨newest', size', uD', uF', uH', uV', many', ahead', r1, r2, P'⟩ := p_remember P W0
              have hlf : fset n lk g < 128 := setOf_lt7 _ hn
              have hll : lset n lk f < 128 := setOf_lt7 _ hn
              have b1 : (fset n lk g).testBit f = lk f g := by rw [setOf_bit]; simp [hf]
              have b3 : (lset n lk f).testBit g = lk f g := by rw [setOf_bit]; simp [hg]
              rw [r1, r2, bd6s, bd2s, gd_nI (show g < 7 by omega) (by omega), l7, gd_nI (show 7 + f < 15 by omega) (by omega), gd_nI (show 7 + f < 15 by omega) (by omega), gd_nI (show 7 + f < 15 by omega) (by omega), cl (by omega), cl (by omega), wF g (by omega), wL f (by omega), p_holds _ (by omega) f (by omega), bs, b1, (p_ref1 _ hll g (by omega)).1, b3]
              have h8 : ∀ s0, f_X8_favour_b91 (nI n) (nI d) (nI (zset n h)) healths (nI f) (nI g) (b2 on) s0 newest' size' uD' uF' uH' fav uV' = some (s0, newest', size', uD', uF', uH', upd fav g (nI (bitU (fset n lk g) f on)), uV') := by
                intro s0
                unfold f_X8_favour_b91 f_X8_favour_b121
                rw [gd_nI (show g < 7 by omega) (by omega), cl (by omega), wF g (by omega)]
                have w := p_withU hlf (show f < 7 by omega) on
                cases on
                · rw [if_neg (show ¬ b2 false = 1 by decide), show (0 : Int32) = b2 false from rfl, w, bs, gd_nI (show g < 7 by omega) (by omega)]
                · rw [if_pos (show b2 true = 1 from rfl), show (1 : Int32) = b2 true from rfl, w, bs, gd_nI (show g < 7 by omega) (by omega)]
              have h9 : ((nI (lset n lk f) &&& (((1 : Int32) <<< (nI g &&& 31)) ^^^ (-1))) ||| (b2 on <<< (nI g &&& 31))) = nI (bitU (lset n lk f) g on) := by
                cases on
                · exact (p_ref1 _ hll g (by omega)).2.2
                · exact (p_ref1 _ hll g (by omega)).2.1
              rw [h8, h8, h9]
              have WW : WIX n (nI d) (nI (zset n h)) healths (upd fav g (nI (bitU (fset n lk g) f on))) (upd st (7 + f) (nI (bitU (lset n lk f) g on))) := by
                refine ⟨d, h, lkU lk f g on, hd, rfl, ?_, rfl, hh, ?_, hb, hz, ?_, ?_, ?_⟩
                · rw [pk_un (by omega)]; exact s14
                · intro k hk; rw [pk_un (by omega)]; exact hs k hk
                · intro b hb'
                  rw [← fset_U hn hf on]
                  by_cases e : b = g
                  · subst e; rw [pk_us, if_pos rfl]
                  · rw [pk_un e, if_neg e]; exact wF b hb'
                · intro a ha
                  rw [← lset_U hn hg on]
                  by_cases e : a = f
                  · subst e; rw [pk_us, if_pos rfl]
                  · rw [pk_un (by omega), if_neg e]; exact wL a ha
                · intro a b hab
                  unfold lkU
                  rw [if_neg (by omega)]
                  exact hlk a b hab
              cases lk f g
              · exact ⟨_, _, _, _, _, _, _, _, _, _, _, rfl, rfl, WW, P'⟩
              · exact ⟨_, _, _, _, _, _, _, _, _, _, _, rfl, rfl, WW, P'⟩
        · rw [y8, y9]
          exact ⟨_, _, _, _, _, _, _, _, _, _, _, rfl, rfl, W0, P⟩
    · rw [g8, g9]
      exact ⟨_, _, _, _, _, _, _, _, _, _, _, rfl, rfl, W0, P⟩
  · rw [e8, e9]
    exact ⟨_, _, _, _, _, _, _, _, _, _, _, rfl, rfl, W0, P⟩
