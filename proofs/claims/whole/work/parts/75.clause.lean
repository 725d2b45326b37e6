def CLO (len : Nat) (t : Nat → Nat) (X8 : Option (Int32 × Int32 × Int32 × Int32 × Int32 × Int32 × (Nat → Int32) × (Nat → Int32) × (Nat → Int32) × (Nat → Int32) × (Nat → Int32))) (X9 : Option (Int32 × Int32 × Int32 × Int32 × Int32 × (Nat → Int32))) : Prop :=
  (∃ s e f q c cs ks ws ps fs pl tk v rd, s ≤ len ∧ X8 = some (0, nI s, e, f, q, c, cs, ks, ws, ps, fs) ∧ X9 = some (0, pl, tk, v, nI s, rd)) ∨ (∃ p f q c cs ks ws ps fs tk v bg rd, p ≤ len ∧ X8 = some (1, nI (tokS len t p), nI (tokE len t p), f, q, c, cs, ks, ws, ps, fs) ∧ X9 = some (1, nI p, tk, v, bg, rd) ∧ TOX f q c ks ws ps fs cs rd)
theorem c_button {len p n q c i : Nat} {t : Nat → Nat} {letters text : Nat → Int32} (hl : len ≤ 160) (h8 : ∀ j, j < len → letters j = nI (t j)) (h9 : ∀ j, j < len → text j = nI (t j)) (hb : ∀ j, j < len → t j ≤ 255) (hp : p ≤ len) (hi : i < 4) {wn cd : Nat → Nat} {lt : Nat → Nat → Bool} {fam quota cc : Int32} {kinds warmths prices fav colds read : Nat → Int32} (T : TOR n q c wn cd lt fam quota cc kinds warmths prices fav colds read) (hn7 : n < 7) (tk v bg : Int32) :
    CLO len t (bd8 (f_X2_readButton (nI (tokS len t p)) (nI (tokE len t p)) (nI len) letters fam kinds warmths prices fav (nI i)) (fun y21_0 y21_1 y21_2 y21_3 y21_4 y21_5 y21_6 y21_7 => bz_ y21_0 (some (y21_0, y21_1, y21_2, y21_3, quota, cc, colds, y21_4, y21_5, y21_6, y21_7)))) (bd6 (f_X9_readButton (nI len) (nI p) tk v bg read text (nI i)) (fun y3_0 y3_1 y3_2 y3_3 y3_4 y3_5 => bz_ y3_0 (some (y3_0, y3_1, y3_2, y3_3, y3_4, y3_5)))) := by
  have T0 := T
  obtain ⟨hn, hq, hc, ⟨rfl, rfl, rfl⟩, ⟨t0, t1, t2⟩, -⟩ := T
  have b1 := tok_b (t := t) hp
  have b2' := tok_b (t := t) b1.2.2
  unfold f_X2_readButton f_X9_readButton f_X9_readButton_b38
  rw [t0, if_neg (show ¬ nI n = 7 from fun q => by have := (nI_eq (a := n) (b := 7) (by omega) (by omega)).mp q; omega), p_num8 hl h8 hb hp 1 9 (by decide), p_num9 hl h9 hb hp tk v bg 1 9, bs, bd5s]
  rcases num_c (p := p) (a := 1) (b := 9) hb (by omega) (by omega) with h | ⟨w, hw1, hw2, h⟩
  · have h' : numR len t p 1 9 = -1 := h
    rw [h', if_pos rfl, if_neg (show ¬ (0 : Int32) ≤ -1 by decide), if_neg (show ¬ (0 : Int32) ≤ -1 by decide)]
    exact Or.inl ⟨_, _, _, _, _, _, _, _, _, _, _, _, _, _, by omega, rfl, rfl⟩
  · have h' : numR len t p 1 9 = nI w := h
    rw [h', if_neg (nI_m1 (by omega)), if_pos (show (0 : Int32) ≤ nI w from nI_pos' (by omega)), p_next8 hl h8 hb b1.2.2, bd2s, p_num8 hl h8 hb b1.2.2 0 99 (by decide), bs, p_num9 hl h9 hb b1.2.2 _ _ _ 0 99, bd5s]
    rcases num_c (p := tokE len t p) (a := 0) (b := 99) hb (by omega) (by omega) with g | ⟨pr, hp1, hp2, g⟩
    · have g' : numR len t (tokE len t p) 0 99 = -1 := g
      rw [g', if_pos rfl, if_neg (show ¬ (0 : Int32) ≤ -1 by decide)]
      exact Or.inl ⟨_, _, _, _, _, _, _, _, _, _, _, _, _, _, by omega, rfl, rfl⟩
    · have g' : numR len t (tokE len t p) 0 99 = nI pr := g
      unfold f_X5_addFamily
      rw [g', if_neg (nI_m1 (by omega)), p_next8 hl h8 hb b2'.2.2, bd2s, if_neg (show ¬ (7 : Int32) ≤ nI n from nI_ge (a := n) (b := 7) hn7 (by omega)), gd_nI hn7 (by omega), gd_nI hn7 (by omega), gd_nI hn7 (by omega), gd_nI hn7 (by omega), cl (by omega), bd5s, bd8s, if_pos (show (0 : Int32) ≤ nI pr from nI_pos' (by omega)), l3, l10, l17, l24, gd_nI (by omega) (by omega), gd_nI (by omega) (by omega), gd_nI (by omega) (by omega), gd_nI (by omega) (by omega), cl (by omega), cl (by omega), cl (by omega), cl (by omega), bd6s, bz1, bz1]
      have e0 : (upd (upd (upd (upd read (3 + n) (nI i)) (10 + n) (nI w)) (17 + n) (nI pr)) (24 + n) 0) 0 = nI n := by rw [pk_un (by omega), pk_un (by omega), pk_un (by omega), pk_un (by omega)]; exact t0
      rw [e0, nI_1]
      exact Or.inr ⟨tokE len t (tokE len t p), _, _, _, _, _, _, _, _, _, _, _, _, by omega, rfl, rfl, TOR_add T0 hn7 hi hw2 (nI pr)⟩
theorem c_favour {len p n q c : Nat} {t : Nat → Nat} {letters text : Nat → Int32} (hl : len ≤ 160) (h8 : ∀ j, j < len → letters j = nI (t j)) (h9 : ∀ j, j < len → text j = nI (t j)) (hb : ∀ j, j < len → t j ≤ 255) (hp : p ≤ len) (on : Bool) {wn cd : Nat → Nat} {lt : Nat → Nat → Bool} {fam quota cc : Int32} {kinds warmths prices fav colds read : Nat → Int32} (T : TOR n q c wn cd lt fam quota cc kinds warmths prices fav colds read) (tk v bg : Int32) :
    CLO len t (f_X2_readClause_b104 (nI len) letters (b2 on) (nI (tokS len t p)) (nI (tokE len t p)) fam quota cc colds kinds warmths prices fav) (f_X9_readClause_b67 (nI len) text (b2 on) (nI p) tk v bg read) := by
  have T0 := T
  obtain ⟨hn, hq, hc, ⟨rfl, rfl, rfl⟩, ⟨t0, t1, t2⟩, tk', tw, tp, tc, hw, hkd, hcs, hcd, hF, hL⟩ := T
  have b1 := tok_b (t := t) hp
  have b2' := tok_b (t := t) b1.2.2
  unfold f_X2_readClause_b104 f_X9_readClause_b67 f_X2_readFavour f_X9_readFavour
  rw [t0, p_num8 hl h8 hb hp 0 (nI n - 1) (fam_m hn), p_num9 hl h9 hb hp tk v bg 0 (nI n - 1), bs, bd5s]
  rcases num_f (p := p) hb hn with h | ⟨a, ha, h⟩
  · unfold f_X9_readFavour_b35
    rw [h, if_pos rfl, if_neg (show ¬ (0 : Int32) ≤ -1 by decide), if_pos (show (-1 : Int32) < 0 by decide)]
    exact Or.inl ⟨_, _, _, _, _, _, _, _, _, _, _, _, _, _, by omega, rfl, rfl⟩
  · rw [h, if_neg (nI_m1 (by omega)), if_pos (show (0 : Int32) ≤ nI a from nI_pos' (by omega)), p_next8 hl h8 hb b1.2.2, bd2s, p_num8 hl h8 hb b1.2.2 0 (nI n - 1) (fam_m hn), bs, p_num9 hl h9 hb b1.2.2 _ _ _ 0 (nI n - 1), bd5s]
    unfold f_X9_readFavour_b35 f_X9_readFavour_b87
    rcases num_f (p := tokE len t p) hb hn with g | ⟨b, hb', g⟩
    · rw [g, if_pos rfl, if_pos (show (-1 : Int32) < 0 by decide)]
      exact Or.inl ⟨_, _, _, _, _, _, _, _, _, _, _, _, _, _, by omega, rfl, rfl⟩
    · rw [g, if_neg (nI_m1 (by omega)), if_neg (nI_pos (by omega))]
      by_cases e : a = b
      · subst e
        rw [if_pos rfl, if_pos rfl]
        exact Or.inl ⟨_, _, _, _, _, _, _, _, _, _, _, _, _, _, by omega, rfl, rfl⟩
      · have hlf : fset n lt b < 128 := setOf_lt7 _ hn
        have hll : lset n lt a < 128 := setOf_lt7 _ hn
        rw [if_neg (show ¬ nI b = nI a from fun q => e ((nI_eq (by omega) (by omega)).mp q).symm), if_neg (show ¬ nI a = nI b from fun q => e ((nI_eq (by omega) (by omega)).mp q)), p_next8 hl h8 hb b2'.2.2, bd2s, gd_nI (show b < 7 by omega) (by omega), cl (by omega), hF b hb', p_withU hlf (by omega), bs, gd_nI (show b < 7 by omega) (by omega), bd4s, bz1, l24]
        have main := TOR_favs T0 ha hb' on
        have e9 : ∀ s0, s0 = nI (bitU (lset n lt a) b on) → (gd_ (nI (24 + a)) 37 (some ((1 : Int32), nI (tokE len t (tokE len t p)), nI (tokK len t (tokE len t p)), nI (tokV len t (tokE len t p)), nI (tokS len t (tokE len t p)), upd read (Int32.toNatClampNeg (nI (24 + a))) s0))) = some ((1 : Int32), nI (tokE len t (tokE len t p)), nI (tokK len t (tokE len t p)), nI (tokV len t (tokE len t p)), nI (tokS len t (tokE len t p)), upd read (24 + a) (nI (bitU (lset n lt a) b on))) := by
          intro s0 hs0
          rw [gd_nI (by omega) (by omega), cl (by omega), hs0]
        rw [gd_nI (show 24 + a < 37 by omega) (by omega)]
        cases on
        · rw [if_pos (show b2 false = 0 from rfl), e9 _ (by rw [cl (by omega), hL a ha]; exact p_ref0 _ hll b (by omega)), bd6s, bz1]
          exact Or.inr ⟨tokE len t (tokE len t p), _, _, _, _, _, _, _, _, _, _, _, _, by omega, rfl, rfl, main⟩
        · rw [if_neg (show ¬ b2 true = 0 by decide), e9 _ (by rw [cl (by omega), hL a ha]; exact (p_ref1 _ hll b (by omega)).2.1), bd6s, bz1]
          exact Or.inr ⟨tokE len t (tokE len t p), _, _, _, _, _, _, _, _, _, _, _, _, by omega, rfl, rfl, main⟩
theorem p_clause {len p : Nat} {t : Nat → Nat} {letters text : Nat → Int32} (hl : len ≤ 160) (h8 : ∀ j, j < len → letters j = nI (t j)) (h9 : ∀ j, j < len → text j = nI (t j)) (hb : ∀ j, j < len → t j ≤ 255) (hp : p ≤ len) {fam quota cc : Int32} {kinds warmths prices fav colds read : Nat → Int32} (X : TOX fam quota cc kinds warmths prices fav colds read) :
    CLO len t (f_X2_readClause (nI (tokS len t p)) (nI (tokE len t p)) (nI len) letters fam quota cc colds kinds warmths prices fav) (f_X9_readClause (nI len) (nI (tokE len t p)) (nI (tokK len t p)) (nI (tokV len t p)) (nI (tokS len t p)) text read) := by
  obtain ⟨n, q, c, wn, cd, lt, T⟩ := X
  have T0 := T
  obtain ⟨hn, hq, hc, ⟨e1, e2, e3⟩, ⟨t0, t1, t2⟩, -⟩ := T
  have b1 := tok_b (t := t) hp
  have b2' := tok_b (t := t) b1.2.2
  unfold f_X2_readClause f_X9_readClause
  rcases p_clw hl h8 h9 hb hp with ⟨w8, w9⟩ | ⟨i, hi, w8, w9⟩
  · rw [w8, w9, bs, bs, if_pos rfl, if_neg (show ¬ (0 : Int32) ≤ -1 by decide)]
    exact Or.inl ⟨_, _, _, _, _, _, _, _, _, _, _, _, _, _, by omega, rfl, rfl⟩
  · rw [w8, w9, bs, bs, if_neg (nI_m1 (by omega)), p_next8 hl h8 hb b1.2.2, bd2s]
    unfold f_X2_hasRoomFor f_X2_hasRoomFor_b41
    by_cases hi4 : i < 4
    · have hprm : prm i = i := by
        have key : ∀ i, i < 4 → prm i = i := by decide
        exact key i hi4
      have hi7 : ∀ k, 4 ≤ k → k < 100 → ¬ nI i = nI k := fun k h1 h2 q => by have := (nI_eq (by omega) (by omega)).mp q; omega
      rw [hprm, if_neg (show ¬ nI i = 7 from hi7 7 (by omega) (by omega)), if_neg (show ¬ (3 : Int32) < nI i from nI_nlt (a := 3) (b := i) (by omega) (by omega)), if_pos (show (0 : Int32) ≤ nI i from nI_pos' (by omega)), if_neg (show ¬ (4 : Int32) ≤ nI i from nI_ge (a := i) (b := 4) (by omega) (by omega)), e1]
      by_cases hn7 : n = 7
      · rw [if_pos (show (7 : Int32) ≤ nI n by rw [hn7]; decide), bs, if_pos rfl]
        unfold f_X9_readButton
        rw [t0, if_pos (show nI n = 7 by rw [hn7]; rfl), bd6s, bz0]
        exact Or.inl ⟨_, _, _, _, _, _, _, _, _, _, _, _, _, _, by omega, rfl, rfl⟩
      · rw [if_neg (show ¬ (7 : Int32) ≤ nI n from nI_ge (a := n) (b := 7) (by omega) (by omega)), bs, if_neg (show ¬ (1 : Int32) = 0 by decide), if_neg (show ¬ nI i = 4 from hi7 4 (by omega) (by omega)), if_neg (show ¬ nI i = 5 from hi7 5 (by omega) (by omega)), if_neg (show ¬ nI i = 6 from hi7 6 (by omega) (by omega)), if_neg (show ¬ nI i = 7 from hi7 7 (by omega) (by omega)), if_neg (show ¬ nI i = 8 from hi7 8 (by omega) (by omega)), if_neg (show ¬ nI i = 9 from hi7 9 (by omega) (by omega)), ← e1]
        exact c_button hl h8 h9 hb b1.2.2 hi4 T0 (by omega) _ _ _
    · rcases (show i = 4 ∨ i = 5 ∨ i = 6 ∨ i = 7 ∨ i = 8 ∨ i = 9 by omega) with rfl | rfl | rfl | rfl | rfl | rfl
      ·
        rw [if_neg (show ¬ nI 4 = 7 by decide), if_pos (show (3 : Int32) < nI 4 by decide), bs, if_neg (show ¬ (1 : Int32) = 0 by decide), if_pos (show nI 4 = 4 from rfl), if_pos (show nI 4 = 4 from rfl), if_pos (show (0 : Int32) ≤ nI (prm 4) by decide), if_pos (show (4 : Int32) ≤ nI (prm 4) by decide), if_neg (show ¬ nI (prm 4) = 4 by decide), if_neg (show ¬ (7 : Int32) ≤ nI (prm 4) by decide), if_pos (show nI (prm 4) = 5 by decide)]
        exact c_favour hl h8 h9 hb b1.2.2 true T0 _ _ _
      ·
        rw [if_neg (show ¬ nI 5 = 7 by decide), if_pos (show (3 : Int32) < nI 5 by decide), bs, if_neg (show ¬ (1 : Int32) = 0 by decide), if_neg (show ¬ nI 5 = 4 by decide), if_pos (show nI 5 = 5 from rfl), if_neg (show ¬ nI 5 = 4 by decide), if_pos (show (0 : Int32) ≤ nI (prm 5) by decide), if_pos (show (4 : Int32) ≤ nI (prm 5) by decide), if_neg (show ¬ nI (prm 5) = 4 by decide), if_neg (show ¬ (7 : Int32) ≤ nI (prm 5) by decide), if_neg (show ¬ nI (prm 5) = 5 by decide)]
        exact c_favour hl h8 h9 hb b1.2.2 false T0 _ _ _
      ·
        rw [if_neg (show ¬ nI 6 = 7 by decide), if_pos (show (3 : Int32) < nI 6 by decide), bs, if_neg (show ¬ (1 : Int32) = 0 by decide), if_neg (show ¬ nI 6 = 4 by decide), if_neg (show ¬ nI 6 = 5 by decide), if_pos (show nI 6 = 6 from rfl), if_pos (show (0 : Int32) ≤ nI (prm 6) by decide), if_pos (show (4 : Int32) ≤ nI (prm 6) by decide), if_neg (show ¬ nI (prm 6) = 4 by decide), if_pos (show (7 : Int32) ≤ nI (prm 6) by decide), if_neg (show ¬ nI (prm 6) = 9 by decide), if_neg (show ¬ nI (prm 6) = 8 by decide)]
        unfold f_X2_readQuota f_X9_readClause_b105 f_X9_readClause_b128
        rw [if_pos (show nI (prm 6) = 7 by decide), p_num8 hl h8 hb b1.2.2 1 20 (by decide), p_num9 hl h9 hb b1.2.2 _ _ _ 1 20, bs, bd5s]
        rcases num_c (p := tokE len t p) (a := 1) (b := 20) hb (by omega) (by omega) with h | ⟨w, hw1, hw2, h⟩
        · have h' : numR len t (tokE len t p) 1 20 = -1 := h
          rw [h', if_pos rfl, if_neg (show ¬ (0 : Int32) ≤ -1 by decide)]
          exact Or.inl ⟨_, _, _, _, _, _, _, _, _, _, _, _, _, _, by omega, rfl, rfl⟩
        · have h' : numR len t (tokE len t p) 1 20 = nI w := h
          rw [h', if_neg (nI_m1 (by omega)), if_pos (show (0 : Int32) ≤ nI w from nI_pos' (by omega)), if_pos (show nI (prm 6) = 7 by decide), p_next8 hl h8 hb b2'.2.2, bd2s, bd4s, bz1]
          exact Or.inr ⟨tokE len t (tokE len t p), _, _, _, _, _, _, _, _, _, _, _, _, by omega, rfl, rfl, TOR_quota T0 ⟨hw1, hw2⟩⟩
      ·
        rw [if_pos (show nI 7 = 7 from rfl), e3, if_pos (show (0 : Int32) ≤ nI (prm 7) by decide), if_pos (show (4 : Int32) ≤ nI (prm 7) by decide), if_neg (show ¬ nI (prm 7) = 4 by decide), if_pos (show (7 : Int32) ≤ nI (prm 7) by decide), if_neg (show ¬ nI (prm 7) = 9 by decide), if_pos (show nI (prm 7) = 8 by decide), t2]
        by_cases hc6 : c = 6
        · rw [if_pos (show (6 : Int32) ≤ nI c by rw [hc6]; decide), bs, if_pos rfl, if_pos (show nI c = 6 by rw [hc6]; rfl)]
          exact Or.inl ⟨_, _, _, _, _, _, _, _, _, _, _, _, _, _, by omega, rfl, rfl⟩
        · rw [if_neg (show ¬ (6 : Int32) ≤ nI c from nI_ge (a := c) (b := 6) (by omega) (by omega)), bs, if_neg (show ¬ (1 : Int32) = 0 by decide), if_neg (show ¬ nI c = 6 from fun q => hc6 ((nI_eq (a := c) (b := 6) (by omega) (by omega)).mp q)), if_neg (show ¬ nI 7 = 4 by decide), if_neg (show ¬ nI 7 = 5 by decide), if_neg (show ¬ nI 7 = 6 by decide), if_pos (show nI 7 = 7 from rfl)]
          unfold f_X2_readCold f_X9_readClause_b105 f_X9_readClause_b128
          rw [if_neg (show ¬ nI (prm 7) = 7 by decide), p_num8 hl h8 hb b1.2.2 0 40 (by decide), p_num9 hl h9 hb b1.2.2 _ _ _ 0 40, bs, bd5s]
          rcases num_c (p := tokE len t p) (a := 0) (b := 40) hb (by omega) (by omega) with h | ⟨w, hw1, hw2, h⟩
          · have h' : numR len t (tokE len t p) 0 40 = -1 := h
            rw [h', if_pos rfl, if_neg (show ¬ (0 : Int32) ≤ -1 by decide)]
            exact Or.inl ⟨_, _, _, _, _, _, _, _, _, _, _, _, _, _, by omega, rfl, rfl⟩
          · have h' : numR len t (tokE len t p) 0 40 = nI w := h
            unfold f_X5_addCold
            rw [h', if_neg (nI_m1 (by omega)), if_pos (show (0 : Int32) ≤ nI w from nI_pos' (by omega)), if_neg (show ¬ nI (prm 7) = 7 by decide), p_next8 hl h8 hb b2'.2.2, bd2s, if_neg (show ¬ (6 : Int32) ≤ nI c from nI_ge (a := c) (b := 6) (by omega) (by omega)), gd_nI (show c < 6 by omega) (by omega), cl (by omega), bd2s, bd5s, bz1, t2, l31, gd_nI (show 31 + c < 37 by omega) (by omega), cl (by omega), pk_un (show 2 ≠ 31 + c by omega), t2, nI_1]
            exact Or.inr ⟨tokE len t (tokE len t p), _, _, _, _, _, _, _, _, _, _, _, _, by omega, rfl, rfl, TOR_cold T0 (by omega) hw2⟩
      ·
        rw [if_neg (show ¬ nI 8 = 7 by decide), if_pos (show (3 : Int32) < nI 8 by decide), bs, if_neg (show ¬ (1 : Int32) = 0 by decide), if_neg (show ¬ nI 8 = 4 by decide), if_neg (show ¬ nI 8 = 5 by decide), if_neg (show ¬ nI 8 = 6 by decide), if_neg (show ¬ nI 8 = 7 by decide), if_pos (show nI 8 = 8 from rfl), if_pos (show (0 : Int32) ≤ nI (prm 8) by decide), if_pos (show (4 : Int32) ≤ nI (prm 8) by decide), if_neg (show ¬ nI (prm 8) = 4 by decide), if_pos (show (7 : Int32) ≤ nI (prm 8) by decide), if_pos (show nI (prm 8) = 9 by decide)]
        exact Or.inr ⟨tokE len t p, _, _, _, _, _, _, _, _, _, _, _, _, by omega, rfl, rfl, TOR_mild T0⟩
      ·
        unfold f_X5_clear
        rw [if_neg (show ¬ nI 9 = 7 by decide), if_pos (show (3 : Int32) < nI 9 by decide), bs, if_neg (show ¬ (1 : Int32) = 0 by decide), if_neg (show ¬ nI 9 = 4 by decide), if_neg (show ¬ nI 9 = 5 by decide), if_neg (show ¬ nI 9 = 6 by decide), if_neg (show ¬ nI 9 = 7 by decide), if_neg (show ¬ nI 9 = 8 by decide), if_pos (show nI 9 = 9 from rfl), bd3s, if_pos (show (0 : Int32) ≤ nI (prm 9) by decide), if_pos (show (4 : Int32) ≤ nI (prm 9) by decide), if_pos (show nI (prm 9) = 4 by decide)]
        exact Or.inr ⟨tokE len t p, _, _, _, _, _, _, _, _, _, _, _, _, by omega, rfl, rfl, TOR_clear T0⟩
