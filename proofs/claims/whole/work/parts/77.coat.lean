theorem WIX_begin {n q c : Nat} {wn cd : Nat → Nat} {lt : Nat → Nat → Bool} {fam quota cc : Int32} {kinds warmths prices tfav colds told : Nat → Int32} (T : TOR n q c wn cd lt fam quota cc kinds warmths prices tfav colds told) {hs fs st : Nat → Int32} (e1 : ∀ j, j < 7 → hs j = if j < n then 20 else 0) (e2 : ∀ j, j < 7 → fs j = if j < n then tfav j else 0) (e3 : ∀ j, j < 7 → st j = if j < n then 20 else 0) (e4 : ∀ j, j < 7 → st (7 + j) = if j < n then told (24 + j) else 0) (e5 : st 14 = 0) : WIX n 0 0 hs fs st := by
  obtain ⟨hn, hq, hc, e0, ⟨t0, t1, t2⟩, tk, tw, tp, tc, hw, hkd, hcs, hcd, hF, hL⟩ := T
  have hz0 : zset n (fun k => if k < n then 20 else 0) = 0 := by
    apply setOf_ext (n := n) (setOf_lt _ n) (Nat.pow_pos (by decide))
    intro k hk
    rw [setOf_bit]
    simp [hk]
  refine ⟨0, fun k => if k < n then 20 else 0, fun a b => decide (a < n) && (decide (b < n) && lt a b), by omega, rfl, ?_, ?_, ?_, ?_, ?_, ?_, ?_, ?_, ?_⟩
  · rw [e5]; rfl
  · rw [hz0, nI_0]
  · intro k hk
    rw [e1 k hk]
    by_cases h : k < n
    · simp only [if_pos h]; rfl
    · simp only [if_neg h]; rfl
  · intro k hk
    rw [e3 k hk]
    by_cases h : k < n
    · simp only [if_pos h]; rfl
    · simp only [if_neg h]; rfl
  · intro k
    show (if k < n then 20 else 0) ≤ 20
    split <;> omega
  · intro k hk
    show (if k < n then 20 else 0) = 0
    rw [if_neg (by omega)]
  · intro b hb
    rw [e2 b hb]
    by_cases h : b < n
    · rw [if_pos h, hF b h]
      congr 1
      apply setOf_congr
      intro k hk
      simp [hk, h]
    · rw [if_neg h]
      have : fset n (fun a b => decide (a < n) && (decide (b < n) && lt a b)) b = 0 := by
        apply setOf_ext (n := n) (setOf_lt _ n) (Nat.pow_pos (by decide))
        intro k hk
        rw [setOf_bit]
        simp [h]
      rw [this, nI_0]
  · intro a ha
    rw [e4 a ha]
    by_cases h : a < n
    · rw [if_pos h, hL a h]
      congr 1
      apply setOf_congr
      intro k hk
      simp [hk, h]
    · rw [if_neg h]
      have : lset n (fun a b => decide (a < n) && (decide (b < n) && lt a b)) a = 0 := by
        apply setOf_ext (n := n) (setOf_lt _ n) (Nat.pow_pos (by decide))
        intro k hk
        rw [setOf_bit]
        simp [h]
      rw [this, nI_0]
  · intro a b hab
    rcases hab with h | h
    · have : ¬ a < n := by omega
      simp [this]
    · have : ¬ b < n := by omega
      simp [this]
theorem q_coat {len n q c : Nat} {t : Nat → Nat} {letters text : Nat → Int32} {l8 l9 : Int32} (R : TXR len t l8 letters l9 text) {wn cd : Nat → Nat} {lt : Nat → Nat → Bool} {fam quota cc : Int32} {kinds warmths prices tfav colds told : Nat → Int32} (T : TOR n q c wn cd lt fam quota cc kinds warmths prices tfav colds told) {date frozen size newest many : Int32} {healths fav st uD uF ahead isKept kD kF mKept kept : Nat → Int32} {uH uV kH kV : Nat → Nat → Int32} (W : WIX n date frozen healths fav st) (P : PAR n size newest uD uF uH uV many ahead) (K : KER n isKept kD kF kH kV mKept kept) {v : Nat} {vs : Nat → Nat} {vn vo : Nat → Bool} {vsize smany : Int32} {sets nights outs seens : Nat → Int32} (V : VOR n v vs vn vo vsize sets nights outs smany seens) (a1 a2 a3 d1 d2 d3 : Int32) (dk dw dp df dc : Nat → Int32) (m1 m2 m3 m4 m5 : Int32) (rd : Nat → Int32) :
    ∃ r x1 x2 x3 fam' quota' cc' x7 x8 x9 kinds' x11 warmths' x13 prices' x15 tfav' x17 colds' x19 l8' date' frozen' healths' fav' size' isKept' vsize' l9' z1 z2 z3 z4 z5 many' smany' told' z9 st' mKept',
      f_X8_coat a1 a2 a3 fam quota cc d1 d2 d3 kinds dk warmths dw prices dp tfav df colds dc l8 letters date frozen healths fav size isKept vsize = some (r, x1, x2, x3, fam', quota', cc', x7, x8, x9, kinds', x11, warmths', x13, prices', x15, tfav', x17, colds', x19, l8', date', frozen', healths', fav', size', isKept', vsize') ∧
      f_X9_coat l9 m1 m2 m3 m4 m5 many smany told rd text st mKept = some (r, l9', z1, z2, z3, z4, z5, many', smany', told', z9, st', mKept') ∧
      (∃ len' t', TXR len' t' l8' letters l9' text) ∧ ∃ n', (∃ q' c' wn' cd' lt', TOR n' q' c' wn' cd' lt' fam' quota' cc' kinds' warmths' prices' tfav' colds' told') ∧ WIX n' date' frozen' healths' fav' st' ∧ PAR n' size' newest uD uF uH uV many' ahead ∧ KER n' isKept' kD kF kH kV mKept' kept ∧ ∃ v' vs' vn' vo', VOR n' v' vs' vn' vo' vsize' sets nights outs smany' seens := by
  unfold f_X8_coat f_X9_coat
  rcases p_read R ⟨n, q, c, wn, cd, lt, T⟩ a1 a2 a3 d1 d2 d3 dk dw dp df dc m1 m2 m3 m4 m5 rd with ⟨s, cl, st1, en, f, q1, c1, ks, ws, ps, fs, cs, pl, tk, vv, cl', rd', hs, x8, x9⟩ | ⟨cl0, st1, en, f, q1, c1, ks, ws, ps, fs, cs, pl, tk, vv, bg, rd', x8, x9, X'⟩
  · have hl := R.1
    rw [x8, x9, bd12s, bd7s, if_pos rfl, if_neg (nI_m1 (by omega))]
    exact ⟨_, _, _, _, _, _, _, _, _, _, _, _, _, _, _, _, _, _, _, _, _, _, _, _, _, _, _, _, _, _, _, _, _, _, _, _, _, _, _, _, rfl, rfl, ⟨len, t, R⟩, n, ⟨q, c, wn, cd, lt, T⟩, W, P, K, v, vs, vn, vo, V⟩
  · obtain ⟨n', q', c', wn', cd', lt', T1⟩ := X'
    have hn' := T1.1
    have hf' := T1.2.2.2.1.1
    obtain ⟨told1, c1', c2'⟩ := p_ct17 text 0 pl tk vv bg cl0 many smany rd' st mKept 37 0 5000 told (by omega) (by omega)
    have ht1 : ∀ j, j < 37 → told1 j = rd' j := fun j hj => by rw [c2' j, if_pos (by omega)]
    have ht10 : told1 0 = nI n' := by rw [ht1 0 (by omega)]; exact T1.2.2.2.2.1.1
    obtain ⟨st2, c3, c4⟩ := p_ct43 hn' text 0 pl tk vv bg cl0 many smany ht10 rd' mKept 7 0 5000 st (by omega) (by omega)
    obtain ⟨hs', fs', b1, b2'⟩ := p_begin hn' (va_cpy fs tfav 0 0 7) 7 0 5000 healths fav (by omega) (by omega)
    obtain ⟨ik', g1, g2, g3⟩ := p_forgetAll size isKept
    have X2 : TOX f q1 c1 (va_cpy ks kinds 0 0 7) (va_cpy ws warmths 0 0 7) (va_cpy ps prices 0 0 7) (va_cpy fs tfav 0 0 7) (va_cpy cs colds 0 0 6) told1 := TOX_same ⟨n', q', c', wn', cd', lt', T1⟩ (fun k hk => cpy7 hk) (fun k hk => cpy7 hk) (fun k hk => cpy7 hk) (fun k hk => cpy7 hk) (fun k hk => cpy6 hk) ht1
    rw [nI_0] at c1' c3 b1
    unfold f_X5_copyFrom f_X7_begin
    rw [x8, x9, bd12s, bd7s, if_neg (show ¬ (1 : Int32) = 0 by decide), if_pos rfl, bd8s, hf', b1, bd4s, g1, bd2s, c1', c3]
    rw [hf'] at X2
    obtain ⟨n2, q2, c2, wn2, cd2, lt2, T2⟩ := X2
    have hnn : n2 = n' := by
      have e := T2.2.2.2.1.1
      exact ((nI_eq (by omega) (by have := T2.1; omega)).mp e).symm
    subst hnn
    obtain ⟨u, nw, hu, hnw, hsz, hnew, hmany, -⟩ := P
    refine ⟨_, _, _, _, _, _, _, _, _, _, _, _, _, _, _, _, _, _, _, _, _, _, _, _, _, _, _, _, _, _, _, _, _, _, _, _, _, _, _, _, rfl, rfl, ⟨0, t, TXR_0 t letters text⟩, n2, ⟨q2, c2, wn2, cd2, lt2, T2⟩, ?_, ?_, ?_, 0, vs, vn, vo, VOR_0 n2 vs vn vo sets nights outs seens⟩
    · refine WIX_begin T2 (fun j hj => ?_) (fun j hj => ?_) (fun j hj => ?_) (fun j hj => ?_) pk_us
      · rw [(b2' j).1, if_pos (show 0 ≤ j ∧ j < 7 by omega)]
      · rw [(b2' j).2, if_pos (show 0 ≤ j ∧ j < 7 by omega)]
      · rw [pk_un (by omega), c4 j, if_pos (show 0 ≤ j ∧ j < 7 by omega)]
      · rw [pk_un (by omega), c4 (7 + j), if_neg (show ¬ (0 ≤ 7 + j ∧ 7 + j < 7) by omega), if_pos (show 7 + 0 ≤ 7 + j ∧ 7 + j < 14 by omega), show 7 + j - 7 = j by omega]
    · rw [hnew]
      exact PAR_0 hnw uD uF uH uV ahead
    · intro k hk
      have hz : ik' k = 0 := by
        rcases (show k = 0 ∨ k = 1 by omega) with rfl | rfl
        · exact g2
        · exact g3
      have hz2 : upd (upd mKept 0 0) 1 0 k = 0 := by
        rcases (show k = 0 ∨ k = 1 by omega) with rfl | rfl
        · rw [pk_un (by decide), pk_us]
        · rw [pk_us]
      exact ⟨by rw [hz, hz2], Or.inl hz⟩
