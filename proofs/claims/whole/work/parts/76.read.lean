theorem bd7s {A0 A1 A2 A3 A4 A5 A6 R : Type} (a0 : A0) (a1 : A1) (a2 : A2) (a3 : A3) (a4 : A4) (a5 : A5) (a6 : A6) (k : A0 → A1 → A2 → A3 → A4 → A5 → A6 → Option R) : bd7 (some (a0, a1, a2, a3, a4, a5, a6)) k = k a0 a1 a2 a3 a4 a5 a6 := rfl
theorem bd11s {A0 A1 A2 A3 A4 A5 A6 A7 A8 A9 A10 R : Type} (a0 : A0) (a1 : A1) (a2 : A2) (a3 : A3) (a4 : A4) (a5 : A5) (a6 : A6) (a7 : A7) (a8 : A8) (a9 : A9) (a10 : A10) (k : A0 → A1 → A2 → A3 → A4 → A5 → A6 → A7 → A8 → A9 → A10 → Option R) : bd11 (some (a0, a1, a2, a3, a4, a5, a6, a7, a8, a9, a10)) k = k a0 a1 a2 a3 a4 a5 a6 a7 a8 a9 a10 := rfl
theorem bd12s {A0 A1 A2 A3 A4 A5 A6 A7 A8 A9 A10 A11 R : Type} (a0 : A0) (a1 : A1) (a2 : A2) (a3 : A3) (a4 : A4) (a5 : A5) (a6 : A6) (a7 : A7) (a8 : A8) (a9 : A9) (a10 : A10) (a11 : A11) (k : A0 → A1 → A2 → A3 → A4 → A5 → A6 → A7 → A8 → A9 → A10 → A11 → Option R) : bd12 (some (a0, a1, a2, a3, a4, a5, a6, a7, a8, a9, a10, a11)) k = k a0 a1 a2 a3 a4 a5 a6 a7 a8 a9 a10 a11 := rfl
def RDO (len : Nat) (X8 : Option (Int32 × Int32 × Int32 × Int32 × Int32 × Int32 × Int32 × (Nat → Int32) × (Nat → Int32) × (Nat → Int32) × (Nat → Int32) × (Nat → Int32))) (X9 : Option (Int32 × Int32 × Int32 × Int32 × Int32 × Int32 × (Nat → Int32))) : Prop :=
  (∃ s cl st en f q c ks ws ps fs cs pl tk v cl' rd, s ≤ len ∧ X8 = some (nI s, cl, st, en, f, q, c, ks, ws, ps, fs, cs) ∧ X9 = some (0, pl, tk, v, nI s, cl', rd)) ∨ (∃ cl st en f q c ks ws ps fs cs pl tk v bg rd, X8 = some (-1, cl, st, en, f, q, c, ks, ws, ps, fs, cs) ∧ X9 = some (1, pl, tk, v, bg, cl, rd) ∧ TOX f q c ks ws ps fs cs rd)
theorem p_read_loop {len : Nat} {t : Nat → Nat} {letters text : Nat → Int32} (hl : len ≤ 160) (h8 : ∀ j, j < len → letters j = nI (t j)) (h9 : ∀ j, j < len → text j = nI (t j)) (hb : ∀ j, j < len → t j ≤ 255) (f0 q0 c0 : Int32) (k0 w0 p0 v0 d0 told : Nat → Int32) : ∀ (m k F G p : Nat) (fam quota cc tk v bg : Int32) (kinds warmths prices fav colds read : Nat → Int32), k + m = 14 → 1 ≤ k → m < F → m < G → p ≤ len → TOX fam quota cc kinds warmths prices fav colds read → RDO len (f_X2_read_b22 f0 q0 c0 k0 w0 p0 v0 d0 (nI len) letters F (nI k) (nI (tokS len t p)) (nI (tokE len t p)) fam quota cc kinds warmths prices fav colds) (f_X9_readText_b36 (nI len) told text G (nI p) tk v bg (nI (k - 1)) read) := by
  intro m
  induction m with
  | zero =>
    intro k F G p fam quota cc tk v bg kinds warmths prices fav colds read hk h1 hF hG hp X
    obtain ⟨F, rfl⟩ : ∃ F', F = F' + 1 := ⟨F - 1, by omega⟩
    obtain ⟨G, rfl⟩ : ∃ G', G = G' + 1 := ⟨G - 1, by omega⟩
    show RDO len (f_X2_read_s22 f0 q0 c0 k0 w0 p0 v0 d0 (nI len) letters (f_X2_read_b22 f0 q0 c0 k0 w0 p0 v0 d0 (nI len) letters F) (nI k) (nI (tokS len t p)) (nI (tokE len t p)) fam quota cc kinds warmths prices fav colds) (f_X9_readText_s36 (nI len) told text (f_X9_readText_b36 (nI len) told text G) (nI p) tk v bg (nI (k - 1)) read)
    unfold f_X2_read_s22 f_X9_readText_s36
    have ek : nI (k - 1) + 1 = nI k := by rw [nI_1, show k - 1 + 1 = k by omega]
    have e14 : nI k = 14 := by rw [show k = 14 by omega]; rfl
    rw [if_neg (show ¬ (14 : Int32) < nI k from nI_nlt (a := 14) (b := k) (by omega) (by omega)), p_next9 hl h9 hb hp, bd4s, ek]
    rcases p_clause hl h8 h9 hb hp X with ⟨s, e, f, q, c, cs, ks, ws, ps, fs, pl, tk', v', rd, hs, x8, x9⟩ | ⟨p', f, q, c, cs, ks, ws, ps, fs, tk', v', bg', rd, hp', x8, x9, X'⟩
    · rw [x8, x9, bd11s, bd6s, if_pos rfl, if_pos rfl]
      exact Or.inl ⟨_, _, _, _, _, _, _, _, _, _, _, _, _, _, _, _, _, hs, rfl, rfl⟩
    · have hts := tok_b (t := t) hp'
      have hkb := tokK_b len t p'
      rw [x8, x9, bd11s, bd6s, if_neg (show ¬ (1 : Int32) = 0 by decide), if_neg (show ¬ (1 : Int32) = 0 by decide), p_next9 hl h9 hb hp', bd4s, if_pos e14, if_pos e14]
      by_cases h3 : tokS len t p' < len
      · have hk3 : ¬ tokK len t p' = 3 := by
          unfold tokK
          rw [if_pos h3]
          split
          · omega
          · split <;> omega
        rw [if_pos (nI_lt h3 (by omega)), p_at hl h8 (by omega), bs, if_pos h3, if_neg (show ¬ nI (tokK len t p') = 3 from fun q => hk3 ((nI_eq (a := tokK len t p') (b := 3) (by omega) (by omega)).mp q))]
        have a : ∀ (X Y : Option (Int32 × Int32 × Int32 × Int32 × Int32 × Int32 × Int32 × (Nat → Int32) × (Nat → Int32) × (Nat → Int32) × (Nat → Int32) × (Nat → Int32))) (P : Prop) [Decidable P], X = Y → (if P then X else Y) = Y := fun X Y P _ h => by rw [h]; split <;> rfl
        have b : ∀ (X Y : Option (Int32 × Int32 × Int32 × Int32 × Int32 × Int32 × (Nat → Int32))) (P : Prop) [Decidable P], X = Y → (if P then X else Y) = Y := fun X Y P _ h => by rw [h]; split <;> rfl
        rw [a _ _ _ rfl, b _ _ _ rfl, b _ _ _ rfl]
        exact Or.inl ⟨_, _, _, _, _, _, _, _, _, _, _, _, _, _, _, _, _, by omega, rfl, rfl⟩
      · have hk3 : tokK len t p' = 3 := by
          unfold tokK
          rw [if_neg h3]
          have hs : isS len t (tokS len t p') = false := by unfold isS; rw [decide_eq_false h3]; rfl
          have hd : isD len t (tokS len t p') = false := by unfold isD; rw [decide_eq_false h3]; rfl
          rw [hs, hd]; rfl
        rw [if_neg (nI_nlt (by omega) (by omega)), if_pos (show nI (tokK len t p') = 3 by rw [hk3]; rfl)]
        exact Or.inr ⟨_, _, _, _, _, _, _, _, _, _, _, _, _, _, _, _, rfl, rfl, X'⟩
  | succ m ih =>
    intro k F G p fam quota cc tk v bg kinds warmths prices fav colds read hk h1 hF hG hp X
    obtain ⟨F, rfl⟩ : ∃ F', F = F' + 1 := ⟨F - 1, by omega⟩
    obtain ⟨G, rfl⟩ : ∃ G', G = G' + 1 := ⟨G - 1, by omega⟩
    show RDO len (f_X2_read_s22 f0 q0 c0 k0 w0 p0 v0 d0 (nI len) letters (f_X2_read_b22 f0 q0 c0 k0 w0 p0 v0 d0 (nI len) letters F) (nI k) (nI (tokS len t p)) (nI (tokE len t p)) fam quota cc kinds warmths prices fav colds) (f_X9_readText_s36 (nI len) told text (f_X9_readText_b36 (nI len) told text G) (nI p) tk v bg (nI (k - 1)) read)
    unfold f_X2_read_s22 f_X9_readText_s36
    have ek : nI (k - 1) + 1 = nI k := by rw [nI_1, show k - 1 + 1 = k by omega]
    have e14 : ¬ nI k = 14 := fun q => by have := (nI_eq (a := k) (b := 14) (by omega) (by omega)).mp q; omega
    rw [if_neg (show ¬ (14 : Int32) < nI k from nI_nlt (a := 14) (b := k) (by omega) (by omega)), p_next9 hl h9 hb hp, bd4s, ek]
    rcases p_clause hl h8 h9 hb hp X with ⟨s, e, f, q, c, cs, ks, ws, ps, fs, pl, tk', v', rd, hs, x8, x9⟩ | ⟨p', f, q, c, cs, ks, ws, ps, fs, tk', v', bg', rd, hp', x8, x9, X'⟩
    · rw [x8, x9, bd11s, bd6s, if_pos rfl, if_pos rfl]
      exact Or.inl ⟨_, _, _, _, _, _, _, _, _, _, _, _, _, _, _, _, _, hs, rfl, rfl⟩
    · have hts := tok_b (t := t) hp'
      have hkb := tokK_b len t p'
      rw [x8, x9, bd11s, bd6s, if_neg (show ¬ (1 : Int32) = 0 by decide), if_neg (show ¬ (1 : Int32) = 0 by decide), p_next9 hl h9 hb hp', bd4s, if_neg e14, if_neg e14]
      by_cases h3 : tokS len t p' < len
      · have ht255 := hb _ h3
        have hk3 : ¬ tokK len t p' = 3 := by
          unfold tokK
          rw [if_pos h3]
          split
          · omega
          · split <;> omega
        rw [if_pos (nI_lt h3 (by omega)), p_at hl h8 (by omega), bs, if_pos h3, if_neg (show ¬ nI (tokK len t p') = 3 from fun q => hk3 ((nI_eq (a := tokK len t p') (b := 3) (by omega) (by omega)).mp q))]
        by_cases h59 : t (tokS len t p') = 59
        · have hS : isS len t (tokS len t p') = false := by unfold isS; rw [h59]; simp
          have hD : isD len t (tokS len t p') = false := by unfold isD; rw [h59]; simp
          have hk0 : tokK len t p' = 0 := by unfold tokK; rw [hS, hD, if_pos h3]; rfl
          have hv0 : tokV len t p' = 59 := by unfold tokV; rw [hS, hD, if_pos h3, h59]; rfl
          rw [if_pos (show nI (t (tokS len t p')) = 59 by rw [h59]; rfl), if_pos (show nI (tokK len t p') = 0 by rw [hk0]; rfl), if_pos (show nI (tokV len t p') = 59 by rw [hv0]; rfl), p_next8 hl h8 hb hts.2.2, bd2s, nI_1]
          exact ih (k + 1) F G (tokE len t p') f q c _ _ _ ks ws ps fs cs rd (by omega) (by omega) (by omega) (by omega) hts.2.2 X'
        · rw [if_neg (show ¬ nI (t (tokS len t p')) = 59 from fun q => h59 ((nI_eq (a := t (tokS len t p')) (b := 59) (by omega) (by omega)).mp q))]
          by_cases hk0 : tokK len t p' = 0
          · have hv0 : tokV len t p' = t (tokS len t p') := by
              unfold tokK at hk0
              unfold tokV
              split at hk0
              · omega
              · split at hk0
                · omega
                · rename_i hS hD
                  rw [if_neg hS, if_neg hD, if_pos h3]
            rw [if_pos (show nI (tokK len t p') = 0 by rw [hk0]; rfl), hv0, if_neg (show ¬ nI (t (tokS len t p')) = 59 from fun q => h59 ((nI_eq (a := t (tokS len t p')) (b := 59) (by omega) (by omega)).mp q))]
            exact Or.inl ⟨_, _, _, _, _, _, _, _, _, _, _, _, _, _, _, _, _, by omega, rfl, rfl⟩
          · rw [if_neg (show ¬ nI (tokK len t p') = 0 from fun q => hk0 ((nI_eq (a := tokK len t p') (b := 0) (by omega) (by omega)).mp q))]
            exact Or.inl ⟨_, _, _, _, _, _, _, _, _, _, _, _, _, _, _, _, _, by omega, rfl, rfl⟩
      · have hk3 : tokK len t p' = 3 := by
          unfold tokK
          rw [if_neg h3]
          have hs : isS len t (tokS len t p') = false := by unfold isS; rw [decide_eq_false h3]; rfl
          have hd : isD len t (tokS len t p') = false := by unfold isD; rw [decide_eq_false h3]; rfl
          rw [hs, hd]; rfl
        rw [if_neg (nI_nlt (by omega) (by omega)), if_pos (show nI (tokK len t p') = 3 by rw [hk3]; rfl)]
        exact Or.inr ⟨_, _, _, _, _, _, _, _, _, _, _, _, _, _, _, _, rfl, rfl, X'⟩
theorem TOX_same {fam quota cc : Int32} {kinds warmths prices fav colds read kinds' warmths' prices' fav' colds' read' : Nat → Int32} (X : TOX fam quota cc kinds warmths prices fav colds read) (e1 : ∀ k, k < 7 → kinds' k = kinds k) (e2 : ∀ k, k < 7 → warmths' k = warmths k) (e3 : ∀ k, k < 7 → prices' k = prices k) (e4 : ∀ k, k < 7 → fav' k = fav k) (e5 : ∀ k, k < 6 → colds' k = colds k) (e6 : ∀ k, k < 37 → read' k = read k) : TOX fam quota cc kinds' warmths' prices' fav' colds' read' := by
  obtain ⟨n, q, c, wn, cd, lt, hn, hq, hc, e0, ⟨t0, t1, t2⟩, tk, tw, tp, tc, hw, hkd, hcs, hcd, hF, hL⟩ := X
  refine ⟨n, q, c, wn, cd, lt, hn, hq, hc, e0, ⟨?_, ?_, ?_⟩, ?_, ?_, ?_, ?_, ?_, ?_, ?_, hcd, ?_, ?_⟩
  · rw [e6 0 (by omega)]; exact t0
  · rw [e6 1 (by omega)]; exact t1
  · rw [e6 2 (by omega)]; exact t2
  · intro f hf; rw [e6 _ (by omega), e1 f hf]; exact tk f hf
  · intro f hf; rw [e6 _ (by omega), e2 f hf]; exact tw f hf
  · intro f hf; rw [e6 _ (by omega), e3 f hf]; exact tp f hf
  · intro f hf; rw [e6 _ (by omega), e5 f hf]; exact tc f hf
  · intro f hf; rw [e2 f (by omega)]; exact hw f hf
  · intro f hf; rw [e1 f (by omega)]; exact hkd f hf
  · intro f hf; rw [e5 f (by omega)]; exact hcs f hf
  · intro f hf; rw [e4 f (by omega)]; exact hF f hf
  · intro f hf; rw [e6 _ (by omega)]; exact hL f hf
theorem cpy6 {f g : Nat → Int32} {k : Nat} (hk : k < 6) : va_cpy f g 0 0 6 k = f k := by
  unfold va_cpy
  rw [if_pos (by omega)]
  exact congrArg f (by omega)
theorem p_rt12 (l9 : Int32) (told text : Nat → Int32) (pl tk v bg clz : Int32) : ∀ (m k F : Nat) (rd : Nat → Int32), k + m = 37 → m < F → ∃ rd', f_X9_readText_b12 l9 told text F (nI k) pl tk v bg clz rd = f_X9_readText_b36 l9 told text 5000 pl tk v bg clz rd' ∧ ∀ j, rd' j = if k ≤ j ∧ j < 37 then told j else rd j := by
  intro m
  induction m with
  | zero =>
    intro k F rd hk hF
    obtain ⟨F, rfl⟩ : ∃ F', F = F' + 1 := ⟨F - 1, by omega⟩
    refine ⟨rd, ?_, fun j => by rw [if_neg (by omega)]⟩
    show f_X9_readText_s12 l9 told text (f_X9_readText_b12 l9 told text F) (nI k) pl tk v bg clz rd = _
    unfold f_X9_readText_s12
    rw [if_pos (show (36 : Int32) < nI k from nI_lt (a := 36) (b := k) (by omega) (by omega))]
  | succ m ih =>
    intro k F rd hk hF
    obtain ⟨F, rfl⟩ : ∃ F', F = F' + 1 := ⟨F - 1, by omega⟩
    obtain ⟨rd', e1, e2⟩ := ih (k + 1) F (upd rd k (told k)) (by omega) (by omega)
    refine ⟨rd', ?_, fun j => ?_⟩
    · show f_X9_readText_s12 l9 told text (f_X9_readText_b12 l9 told text F) (nI k) pl tk v bg clz rd = _
      unfold f_X9_readText_s12
      rw [if_neg (show ¬ (36 : Int32) < nI k from nI_nlt (a := 36) (b := k) (by omega) (by omega)), gd_nI (by omega) (by omega), gd_nI (by omega) (by omega), cl (by omega), nI_1]
      exact e1
    · rw [e2 j]
      by_cases hj : j = k
      · subst hj
        rw [if_neg (by omega), if_pos (by omega), pk_us]
      · rw [pk_un hj]
        by_cases q : k + 1 ≤ j ∧ j < 37
        · rw [if_pos q, if_pos (by omega)]
        · rw [if_neg q, if_neg (by omega)]
theorem p_read {len : Nat} {t : Nat → Nat} {letters text : Nat → Int32} {l8 l9 : Int32} (R : TXR len t l8 letters l9 text) {fam quota cc : Int32} {kinds warmths prices fav colds told : Nat → Int32} (X : TOX fam quota cc kinds warmths prices fav colds told) (a1 a2 a3 d1 d2 d3 : Int32) (dk dw dp df dc : Nat → Int32) (m1 m2 m3 m4 m5 : Int32) (rd : Nat → Int32) : RDO len (f_X2_read a1 a2 a3 fam quota cc d1 d2 d3 kinds dk warmths dw prices dp fav df colds dc l8 letters) (f_X9_readText l9 m1 m2 m3 m4 m5 told rd text) := by
  obtain ⟨hl, rfl, rfl, hj⟩ := R
  have hb : ∀ j, j < len → t j ≤ 255 := fun j h => (hj j h).1
  have h8 : ∀ j, j < len → letters j = nI (t j) := fun j h => (hj j h).2.1
  have h9 : ∀ j, j < len → text j = nI (t j) := fun j h => (hj j h).2.2
  unfold f_X2_read f_X9_readText f_X5_copyFrom
  have e0 : (0 : Int32) = nI 0 := nI_0.symm
  obtain ⟨rd', r1, r2⟩ := p_rt12 (nI len) told text 0 m2 m3 m4 0 37 0 5000 rd (by omega) (by omega)
  rw [nI_0] at r1
  have hnx : f_X2_next a2 0 (nI len) letters = some (nI (tokS len t 0), nI (tokE len t 0)) := p_next8 (p := 0) hl h8 hb (Nat.zero_le _) a2
  rw [r1, bd8s, hnx, bd2s]
  exact p_read_loop hl h8 h9 hb fam quota cc kinds warmths prices fav colds told 13 1 5000 5000 0 fam quota cc m2 m3 m4 _ _ _ _ _ rd' (by omega) (by omega) (by omega) (by omega) (Nat.zero_le _) (TOX_same X (fun k hk => cpy7 hk) (fun k hk => cpy7 hk) (fun k hk => cpy7 hk) (fun k hk => cpy7 hk) (fun k hk => cpy6 hk) (fun k hk => by rw [r2 k, if_pos (by omega)]))
theorem q_fault {len : Nat} {t : Nat → Nat} {letters text : Nat → Int32} {l8 l9 : Int32} (R : TXR len t l8 letters l9 text) {fam quota cc : Int32} {kinds warmths prices fav colds told : Nat → Int32} (X : TOX fam quota cc kinds warmths prices fav colds told) (a1 a2 a3 d1 d2 d3 : Int32) (dk dw dp df dc : Nat → Int32) (m1 m2 m3 m4 m5 : Int32) (rd : Nat → Int32) : ∃ r x1 x2 x3 x4 x5 x6 x7 x8 x9 x10 x11 z1 z2 z3 z4 z5 z6, f_X8_fault a1 a2 a3 fam quota cc d1 d2 d3 kinds dk warmths dw prices dp fav df colds dc l8 letters = some (r, x1, x2, x3, x4, x5, x6, x7, x8, x9, x10, x11) ∧ f_X9_fault l9 m1 m2 m3 m4 m5 told rd text = some (r, z1, z2, z3, z4, z5, z6) := by
  unfold f_X8_fault f_X9_fault
  rcases p_read R X a1 a2 a3 d1 d2 d3 dk dw dp df dc m1 m2 m3 m4 m5 rd with ⟨s, cl, st, en, f, q, c, ks, ws, ps, fs, cs, pl, tk, v, cl', rd', hs, x8, x9⟩ | ⟨cl, st, en, f, q, c, ks, ws, ps, fs, cs, pl, tk, v, bg, rd', x8, x9, X'⟩
  · rw [x8, x9, bd12s, bd7s, if_pos rfl]
    exact ⟨_, _, _, _, _, _, _, _, _, _, _, _, _, _, _, _, _, _, rfl, rfl⟩
  · rw [x8, x9, bd12s, bd7s, if_neg (show ¬ (1 : Int32) = 0 by decide)]
    exact ⟨_, _, _, _, _, _, _, _, _, _, _, _, _, _, _, _, _, _, rfl, rfl⟩
theorem q_write {len : Nat} {t : Nat → Nat} {letters text : Nat → Int32} {l8 l9 : Int32} (R : TXR len t l8 letters l9 text) (x : Int32) : ∃ r l8' letters' l9' text', f_X8_write l8 letters x = some (r, l8', letters') ∧ f_X9_write l9 text x = some (r, l9', text') ∧ ∃ len' t', TXR len' t' l8' letters' l9' text' := by
  have R0 := R
  obtain ⟨hl, rfl, rfl, hj⟩ := R
  unfold f_X8_write f_X9_write
  have hin : f_X9_in (Int32.toInt64 x) 0 255 = some (if 0 ≤ x ∧ x ≤ 255 then 1 else 0) := p_in32 x 0 255
  rw [hin, bs]
  by_cases h : 0 ≤ x ∧ x ≤ 255
  · have h1 : ¬ x < 0 := fun q => by have a := Int32.lt_iff_toInt_lt.mp q; have b := Int32.le_iff_toInt_le.mp h.1; omega
    obtain ⟨c, hc, rfl⟩ := nI_of2 (x := x) (M := 255) (n := 255) rfl h1 h.2
    rw [if_pos h, if_neg (show ¬ (1 : Int32) = 0 by decide), if_neg h1, if_pos h.2]
    by_cases hf : len = 160
    · rw [if_neg (show ¬ nI len < 160 from nI_nlt (a := len) (b := 160) (by omega) (by omega)), if_pos (show nI len = 160 by rw [hf]; rfl)]
      exact ⟨_, _, _, _, _, rfl, rfl, len, t, R0⟩
    · unfold f_X0_add
      rw [if_pos (show nI len < 160 from nI_lt (a := len) (b := 160) (by omega) (by omega)), if_neg (show ¬ nI len = 160 from fun q => hf ((nI_eq (a := len) (b := 160) (by omega) (by omega)).mp q)), if_neg (show ¬ (160 : Int32) ≤ nI len from nI_ge (a := len) (b := 160) (by omega) (by omega)), gd_nI (by omega) (by omega), gd_nI (by omega) (by omega), cl (by omega), bd2s]
      refine ⟨_, _, _, _, _, rfl, rfl, len + 1, fun j => if j = len then c else t j, by omega, nI_1 len, nI_1 len, fun j hj' => ?_⟩
      by_cases e : j = len
      · subst e
        simp only [eq_self, if_true]
        exact ⟨hc, pk_us, pk_us⟩
      · simp only [if_neg e]
        obtain ⟨g1, g2, g3⟩ := hj j (by omega)
        exact ⟨g1, by rw [pk_un e]; exact g2, by rw [pk_un e]; exact g3⟩
  · rw [if_neg h, if_pos rfl]
    refine ⟨-3, nI len, letters, nI len, text, ?_, rfl, len, t, R0⟩
    by_cases h1 : x < 0
    · rw [if_pos h1]
    · rw [if_neg h1, if_neg]
      intro h2
      refine h ⟨Int32.le_iff_toInt_le.mpr ?_, h2⟩
      have : ¬ x.toInt < (0 : Int32).toInt := fun q => h1 (Int32.lt_iff_toInt_lt.mpr q)
      omega
theorem TXR_0 (t : Nat → Nat) (letters text : Nat → Int32) : TXR 0 t 0 letters 0 text := ⟨by omega, rfl, rfl, fun j hj => absurd hj (Nat.not_lt_zero j)⟩
theorem p_begin {n : Nat} (hn : n ≤ 7) (tfav : Nat → Int32) : ∀ (m k F : Nat) (hs fs : Nat → Int32), k + m = 7 → m < F → ∃ hs' fs', f_X7_begin_b12 (nI n) tfav F (nI k) 0 0 hs fs = some (0, 0, hs', fs') ∧ ∀ j, hs' j = (if k ≤ j ∧ j < 7 then (if j < n then 20 else 0) else hs j) ∧ fs' j = (if k ≤ j ∧ j < 7 then (if j < n then tfav j else 0) else fs j) := by
  intro m
  induction m with
  | zero =>
    intro k F hs fs hk hF
    obtain ⟨F, rfl⟩ : ∃ F', F = F' + 1 := ⟨F - 1, by omega⟩
    refine ⟨hs, fs, ?_, fun j => ⟨by rw [if_neg (by omega)], by rw [if_neg (by omega)]⟩⟩
    show f_X7_begin_s12 (nI n) tfav (f_X7_begin_b12 (nI n) tfav F) (nI k) 0 0 hs fs = _
    unfold f_X7_begin_s12
    rw [if_pos (show (7 : Int32) ≤ nI k from nI_le (a := 7) (b := k) (by omega) (by omega))]
  | succ m ih =>
    intro k F hs fs hk hF
    obtain ⟨F, rfl⟩ : ∃ F', F = F' + 1 := ⟨F - 1, by omega⟩
    obtain ⟨hs', fs', e1, e2⟩ := ih (k + 1) F (upd hs k (if k < n then 20 else 0)) (upd fs k (if k < n then tfav k else 0)) (by omega) (by omega)
    refine ⟨hs', fs', ?_, fun j => ?_⟩
    · show f_X7_begin_s12 (nI n) tfav (f_X7_begin_b12 (nI n) tfav F) (nI k) 0 0 hs fs = _
      unfold f_X7_begin_s12 f_X7_begin_b37 f_X7_begin_b61
      rw [if_neg (show ¬ (7 : Int32) ≤ nI k from nI_ge (a := k) (b := 7) (by omega) (by omega))]
      simp only [gd_nI (show k < 7 by omega) (show 7 < 2 ^ 31 by decide), cl (show k < 2 ^ 31 by omega), nI_1]
      by_cases h : k < n
      · rw [if_pos h, if_pos h] at e1
        rw [if_neg (nI_ge h (by omega)), if_neg (nI_ge h (by omega))]
        exact e1
      · rw [if_neg h, if_neg h] at e1
        rw [if_pos (nI_le (by omega) (by omega)), if_pos (nI_le (by omega) (by omega))]
        exact e1
    · obtain ⟨g1, g2⟩ := e2 j
      rw [g1, g2]
      by_cases hj : j = k
      · have q1 : ¬ (k + 1 ≤ j ∧ j < 7) := by omega
        have q2 : k ≤ j ∧ j < 7 := by omega
        rw [if_neg q1, if_neg q1, if_pos q2, if_pos q2, hj, pk_us, pk_us]
        exact ⟨rfl, rfl⟩
      · rw [pk_un hj, pk_un hj]
        by_cases q : k + 1 ≤ j ∧ j < 7
        · have q2 : k ≤ j ∧ j < 7 := by omega
          rw [if_pos q, if_pos q, if_pos q2, if_pos q2]
          exact ⟨rfl, rfl⟩
        · have q2 : ¬ (k ≤ j ∧ j < 7) := by omega
          rw [if_neg q, if_neg q, if_neg q2, if_neg q2]
          exact ⟨rfl, rfl⟩
theorem p_ct17 (text : Nat → Int32) (a1 a2 a3 a4 a5 a6 a7 a8 : Int32) (rd st ik : Nat → Int32) : ∀ (m k F : Nat) (told : Nat → Int32), k + m = 37 → m < F → ∃ told', f_X9_coat_b17 text F (nI k) a1 a2 a3 a4 a5 a6 a7 a8 told rd st ik = f_X9_coat_b43 text 5000 0 a1 a2 a3 a4 a5 a6 a7 a8 told' rd st ik ∧ ∀ j, told' j = if k ≤ j ∧ j < 37 then rd j else told j := by
  intro m
  induction m with
  | zero =>
    intro k F told hk hF
    obtain ⟨F, rfl⟩ : ∃ F', F = F' + 1 := ⟨F - 1, by omega⟩
    refine ⟨told, ?_, fun j => by rw [if_neg (by omega)]⟩
    show f_X9_coat_s17 text (f_X9_coat_b17 text F) (nI k) a1 a2 a3 a4 a5 a6 a7 a8 told rd st ik = _
    unfold f_X9_coat_s17
    rw [if_pos (show (36 : Int32) < nI k from nI_lt (a := 36) (b := k) (by omega) (by omega))]
  | succ m ih =>
    intro k F told hk hF
    obtain ⟨F, rfl⟩ : ∃ F', F = F' + 1 := ⟨F - 1, by omega⟩
    obtain ⟨told', e1, e2⟩ := ih (k + 1) F (upd told k (rd k)) (by omega) (by omega)
    refine ⟨told', ?_, fun j => ?_⟩
    · show f_X9_coat_s17 text (f_X9_coat_b17 text F) (nI k) a1 a2 a3 a4 a5 a6 a7 a8 told rd st ik = _
      unfold f_X9_coat_s17
      rw [if_neg (show ¬ (36 : Int32) < nI k from nI_nlt (a := 36) (b := k) (by omega) (by omega)), gd_nI (by omega) (by omega), gd_nI (by omega) (by omega), cl (by omega), nI_1]
      exact e1
    · rw [e2 j]
      by_cases hj : j = k
      · subst hj
        rw [if_neg (by omega), if_pos (by omega), pk_us]
      · rw [pk_un hj]
        by_cases q : k + 1 ≤ j ∧ j < 37
        · rw [if_pos q, if_pos (by omega)]
        · rw [if_neg q, if_neg (by omega)]
theorem p_ct43 {n : Nat} (hn : n ≤ 7) (text : Nat → Int32) (a1 a2 a3 a4 a5 a6 a7 a8 : Int32) {told : Nat → Int32} (t0 : told 0 = nI n) (rd ik : Nat → Int32) : ∀ (m k F : Nat) (st : Nat → Int32), k + m = 7 → m < F → ∃ st', f_X9_coat_b43 text F (nI k) a1 a2 a3 a4 a5 a6 a7 a8 told rd st ik = some (a6, a1, a2, a3, a4, a5, a6, 0, 0, told, rd, upd st' 14 0, upd (upd ik 0 0) 1 0) ∧ ∀ j, st' j = if k ≤ j ∧ j < 7 then (if j < n then 20 else 0) else if 7 + k ≤ j ∧ j < 14 then (if j - 7 < n then told (24 + (j - 7)) else 0) else st j := by
  intro m
  induction m with
  | zero =>
    intro k F st hk hF
    obtain ⟨F, rfl⟩ : ∃ F', F = F' + 1 := ⟨F - 1, by omega⟩
    refine ⟨st, ?_, fun j => by rw [if_neg (by omega), if_neg (by omega)]⟩
    show f_X9_coat_s43 text (f_X9_coat_b43 text F) (nI k) a1 a2 a3 a4 a5 a6 a7 a8 told rd st ik = _
    unfold f_X9_coat_s43
    rw [if_pos (show (7 : Int32) ≤ nI k from nI_le (a := 7) (b := k) (by omega) (by omega))]
    rfl
  | succ m ih =>
    intro k F st hk hF
    obtain ⟨F, rfl⟩ : ∃ F', F = F' + 1 := ⟨F - 1, by omega⟩
    obtain ⟨st', e1, e2⟩ := ih (k + 1) F (upd (upd st k (if k < n then 20 else 0)) (7 + k) (if k < n then told (24 + k) else 0)) (by omega) (by omega)
    refine ⟨st', ?_, fun j => ?_⟩
    · show f_X9_coat_s43 text (f_X9_coat_b43 text F) (nI k) a1 a2 a3 a4 a5 a6 a7 a8 told rd st ik = _
      unfold f_X9_coat_s43 f_X9_coat_b64 f_X9_coat_b80 f_X9_coat_b106
      rw [if_neg (show ¬ (7 : Int32) ≤ nI k from nI_ge (a := k) (b := 7) (by omega) (by omega)), t0]
      simp only [l7, l24, gd_nI (show k < 15 by omega) (show 15 < 2 ^ 31 by decide), gd_nI (show 7 + k < 15 by omega) (show 15 < 2 ^ 31 by decide), gd_nI (show 24 + k < 37 by omega) (show 37 < 2 ^ 31 by decide), cl (show k < 2 ^ 31 by omega), cl (show 7 + k < 2 ^ 31 by omega), cl (show 24 + k < 2 ^ 31 by omega), nI_1]
      by_cases h : k < n
      · rw [if_pos h, if_pos h] at e1
        rw [if_neg (nI_ge h (by omega)), if_neg (show ¬ (1 : Int32) = 0 by decide), if_neg (show ¬ (1 : Int32) = 0 by decide)]
        exact e1
      · rw [if_neg h, if_neg h] at e1
        rw [if_pos (nI_le (by omega) (by omega)), if_pos True.intro, if_pos True.intro]
        exact e1
    · rw [e2 j]
      by_cases hj : j = k
      · have q1 : ¬ (k + 1 ≤ j ∧ j < 7) := by omega
        have q2 : ¬ (7 + (k + 1) ≤ j ∧ j < 14) := by omega
        have q3 : k ≤ j ∧ j < 7 := by omega
        rw [if_neg q1, if_neg q2, if_pos q3, pk_un (show j ≠ 7 + k by omega), hj, pk_us]
      · by_cases hj2 : j = 7 + k
        · have q1 : ¬ (k + 1 ≤ j ∧ j < 7) := by omega
          have q2 : ¬ (7 + (k + 1) ≤ j ∧ j < 14) := by omega
          have q3 : ¬ (k ≤ j ∧ j < 7) := by omega
          have q4 : 7 + k ≤ j ∧ j < 14 := by omega
          rw [if_neg q1, if_neg q2, if_neg q3, if_pos q4, hj2, pk_us, show 7 + k - 7 = k by omega]
        · rw [pk_un hj2, pk_un hj]
          by_cases q : k + 1 ≤ j ∧ j < 7
          · have q3 : k ≤ j ∧ j < 7 := by omega
            rw [if_pos q, if_pos q3]
          · have q3 : ¬ (k ≤ j ∧ j < 7) := by omega
            rw [if_neg q, if_neg q3]
            by_cases q2 : 7 + (k + 1) ≤ j ∧ j < 14
            · have q4 : 7 + k ≤ j ∧ j < 14 := by omega
              rw [if_pos q2, if_pos q4]
            · have q4 : ¬ (7 + k ≤ j ∧ j < 14) := by omega
              rw [if_neg q2, if_neg q4]
