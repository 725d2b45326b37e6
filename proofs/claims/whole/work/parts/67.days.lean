theorem nI_ne_m1 {f : Nat} (hf : f < 7) : ¬ nI f = -1 := fun q => by
  have := congrArg Int32.toInt q
  rw [nI_toI (by omega)] at this
  have e : (-1 : Int32).toInt = -1 := by decide
  omega
theorem p_days {n q c d : Nat} {wn cd h : Nat → Nat} {lt lk : Nat → Nat → Bool} {fam quota cc date frozen : Int32} {kinds warmths prices tfav colds told healths fav st : Nat → Int32} (T : TOR n q c wn cd lt fam quota cc kinds warmths prices tfav colds told) (Wi : WIR n d h lk date frozen healths fav st) (hd' : d < 999) {a : Option Nat} (ha : ∀ f, a = some f → f < n) : ∃ r date' frozen' healths' st', f_X7_passDay date frozen fam quota cc colds fav kinds warmths healths (wrI a) = some (r, date', frozen', healths') ∧ f_X9_oneDay told st (wrI a) = some (r, st') ∧ WIR n (d + 1) (nextH kinds wn cd n q c d h lk a) lk date' frozen' healths' fav st' := by
  obtain ⟨hn, hq, hc, ⟨rfl, rfl, rfl⟩, ⟨t0, t1, t2⟩, tk, tw, tp, tc, hw, hkd, hcs, hcd, hF, hL⟩ := T
  obtain ⟨hd, rfl, s14, rfl, hh, hs, hb, hz, wF, wL, hlk⟩ := Wi
  obtain ⟨healths', p1, p2⟩ := p_passDay hn hq hc (show d < 1024 by omega) ha (kinds := kinds) hw hcd hcs hb hz hh (fun b hb' => wF b (by omega))
  obtain ⟨st', o1, o2, o3, o4⟩ := p_oneDay (q := q) hn hc (show d < 1024 by omega) ha t0 t1 t2 s14 tk (fun k hk => by rw [tw k (by omega)]; exact hw k hk) hcd (fun j hj => by rw [tc j (by omega)]; exact hcs j hj) hb hz hs (fun b hb' => wL b (by omega))
  refine ⟨_, _, _, _, _, p1, o1, by omega, rfl, o4, rfl, p2, o2, ?_, ?_, wF, ?_, hlk⟩
  · intro k
    unfold nextH
    exact dayH_le hb k
  · intro k hk
    unfold nextH dayH
    rw [if_pos (hz k hk)]
  · intro b hb'
    rw [o3 (7 + b) (by omega) (by omega)]
    exact wL b hb'
theorem q_day {n q c : Nat} {wn cd : Nat → Nat} {lt : Nat → Nat → Bool} {fam quota cc date frozen size newest many : Int32} {kinds warmths prices tfav colds told healths fav st uD uF ahead : Nat → Int32} {uH uV : Nat → Nat → Int32} (T : TOR n q c wn cd lt fam quota cc kinds warmths prices tfav colds told) (W : WIX n date frozen healths fav st) (P : PAR n size newest uD uF uH uV many ahead) (x : Int32) : ∃ r date' frozen' newest' size' uD' uF' healths' uH' uV' many' st' ahead', f_X8_day fam quota cc date frozen newest size uD uF healths uH fav uV colds kinds warmths x = some (r, date', frozen', newest', size', uD', uF', healths', uH', uV') ∧ f_X9_day many told st ahead x = some (r, many', st', ahead') ∧ WIX n date' frozen' healths' fav st' ∧ PAR n size' newest' uD' uF' uH' uV' many' ahead' := by
  have W0 := W
  obtain ⟨d, h, lk, Wi⟩ := W
  have hn := T.1
  have hfam := T.2.2.2.1.1
  have t0 := T.2.2.2.2.1.1
  have hd := Wi.1
  have hdate := Wi.2.1
  have s14 := Wi.2.2.1
  have hfro := Wi.2.2.2.1
  have hs := Wi.2.2.2.2.2.1
  have hb := Wi.2.2.2.2.2.2.1
  have main : ∀ a : Option Nat, (∀ f, a = some f → f < n) → ∃ r date' frozen' newest' size' uD' uF' healths' uH' uV' many' st' ahead', f_X8_day_b35 fam quota cc fav colds kinds warmths (wrI a) date frozen newest size uD uF healths uH uV = some (r, date', frozen', newest', size', uD', uF', healths', uH', uV') ∧ f_X9_day_b31 told (wrI a) many st ahead = some (r, many', st', ahead') ∧ WIX n date' frozen' healths' fav st' ∧ PAR n size' newest' uD' uF' uH' uV' many' ahead' := by
    intro a ha
    unfold f_X8_day_b35 f_X9_day_b31
    by_cases h9 : d = 999
    · rw [hdate, s14, if_neg (show ¬ nI d < 999 from nI_nlt (a := d) (b := 999) (by omega) (by omega)), if_pos (show nI d = 999 by rw [h9]; rfl), ← hdate]
      exact ⟨_, _, _, _, _, _, _, _, _, _, _, _, _, rfl, rfl, W0, P⟩
    · obtain ⟨newest', size', uD', uF', uH', uV', many', ahead', r1, r2, P'⟩ := p_remember P W0
      obtain ⟨r, date', frozen', healths', st', p1, o1, WW⟩ := p_days T Wi (by omega) ha
      rw [r1, r2, bd6s, bd2s, p1, o1, bd4s, bd2s, hdate, s14, if_pos (show nI d < 999 from nI_lt (a := d) (b := 999) (by omega) (by omega)), if_neg (show ¬ nI d = 999 from fun q => h9 ((nI_eq (a := d) (b := 999) (by omega) (by omega)).mp q))]
      exact ⟨_, _, _, _, _, _, _, _, _, _, _, _, _, rfl, rfl, ⟨_, _, _, WW⟩, P'⟩
  unfold f_X8_day f_X9_day
  by_cases hx : x = -1
  · subst hx
    rw [if_pos rfl, if_pos rfl]
    unfold f_X8_day_b16 f_X9_day_b16
    rw [if_pos rfl, if_pos (show (-1 : Int32) < 0 by decide)]
    exact main none (fun f e => by cases e)
  · rw [if_neg hx, if_neg hx, hfam]
    rcases p_fam hn t0 x with ⟨f, hf, rfl, e8, e9⟩ | ⟨-, e8, e9⟩
    · rw [e8, e9, bs, bs, if_neg (show ¬ (1 : Int32) = 0 by decide), if_neg (show ¬ (1 : Int32) = 0 by decide)]
      unfold f_X8_day_b16 f_X9_day_b16
      rw [if_neg hx, if_neg (nI_pos (by omega)), hfro, p_isFrozen7 hn hf h, p_isFrozen9 (by omega) (hs f (by omega)) (hb f), bs, bs, ← hfro, ← hfam]
      by_cases z1 : h f = 0
      · rw [if_pos z1, if_neg (show ¬ (1 : Int32) = 0 by decide), if_neg (show ¬ (1 : Int32) = 0 by decide)]
        exact ⟨_, _, _, _, _, _, _, _, _, _, _, _, _, rfl, rfl, W0, P⟩
      · rw [if_neg z1, if_pos rfl, if_pos rfl]
        exact main (some f) (fun g e => by have := Option.some.inj e; omega)
    · rw [e8, e9]
      exact ⟨_, _, _, _, _, _, _, _, _, _, _, _, _, rfl, rfl, W0, P⟩
theorem p_undo_cp {u : Nat} (hu : u < 8) (ah : Nat → Int32) : ∀ (m k F : Nat) (st : Nat → Int32), k + m = 15 → m < F → ∃ st', f_X9_undo_b22 ah F (nI k) (nI u) st = some (nI u, nI u, st') ∧ ∀ j, st' j = if k ≤ j ∧ j < 15 then ah (15 * u + j) else st j := by
  intro m
  induction m with
  | zero =>
    intro k F st hk hF
    obtain ⟨F, rfl⟩ : ∃ F', F = F' + 1 := ⟨F - 1, by omega⟩
    refine ⟨st, ?_, fun j => by rw [if_neg (by omega)]⟩
    show f_X9_undo_s22 ah (f_X9_undo_b22 ah F) (nI k) (nI u) st = _
    unfold f_X9_undo_s22
    rw [if_pos (show (15 : Int32) ≤ nI k from nI_le (a := 15) (b := k) (by omega) (by omega))]
  | succ m ih =>
    intro k F st hk hF
    obtain ⟨F, rfl⟩ : ∃ F', F = F' + 1 := ⟨F - 1, by omega⟩
    obtain ⟨st', e1, e2⟩ := ih (k + 1) F (upd st k (ah (15 * u + k))) (by omega) (by omega)
    refine ⟨st', ?_, fun j => ?_⟩
    · show f_X9_undo_s22 ah (f_X9_undo_b22 ah F) (nI k) (nI u) st = _
      unfold f_X9_undo_s22
      rw [if_neg (show ¬ (15 : Int32) ≤ nI k from nI_ge (a := k) (b := 15) (by omega) (by omega)), p_15 u hu, nI_add, gd_nI (by omega) (by omega), gd_nI (by omega) (by omega), cl (by omega), cl (by omega), nI_1]
      exact e1
    · rw [e2 j]
      by_cases hj : j = k
      · subst hj
        rw [if_neg (by omega), if_pos (by omega), pk_us]
      · rw [pk_un hj]
        by_cases q : k + 1 ≤ j ∧ j < 15
        · rw [if_pos q, if_pos (by omega)]
        · rw [if_neg q, if_neg (by omega)]
theorem q_undo {n : Nat} {date frozen size newest many : Int32} {healths fav st uD uF ahead : Nat → Int32} {uH uV : Nat → Nat → Int32} (W : WIX n date frozen healths fav st) (P : PAR n size newest uD uF uH uV many ahead) : ∃ r newest' size' date' frozen' healths' fav' many' st', f_X8_undo newest size date frozen uD uF uH healths uV fav = some (r, newest', size', date', frozen', healths', fav') ∧ f_X9_undo many ahead st = some (r, many', st') ∧ WIX n date' frozen' healths' fav' st' ∧ PAR n size' newest' uD uF uH uV many' ahead := by
  have P0 := P
  obtain ⟨u, nw, hu, hnw, rfl, rfl, rfl, hi⟩ := P
  unfold f_X8_undo f_X9_undo
  by_cases h0 : u = 0
  · rw [if_pos (show nI u = 0 by rw [h0]; rfl), if_pos (show nI u = 0 by rw [h0]; rfl)]
    exact ⟨_, _, _, _, _, _, _, _, _, rfl, rfl, W, P0⟩
  · obtain ⟨v, rfl⟩ : ∃ v, u = v + 1 := ⟨u - 1, by omega⟩
    obtain ⟨st', e1, e2⟩ := p_undo_cp (u := v) (by omega) ahead 15 0 5000 st (by omega) (by omega)
    rw [nI_0] at e1
    unfold f_X1_recall
    rw [if_neg (nI_ne0 (by omega) (by omega)), if_neg (nI_ne0 (by omega) (by omega)), if_neg (nI_nle (by omega) (by omega)), nI_pred, e1, gdx_nI hnw (by omega), (p_ring nw hnw).2]
    unfold f_X7_copyFrom
    rw [bd4s, bd6s]
    refine ⟨_, _, _, _, _, _, _, _, _, rfl, rfl, ?_, v, (nw + 7) % 8, by omega, Nat.mod_lt _ (by omega), rfl, rfl, rfl, fun i hi' => ?_⟩
    · have := hi v (by omega)
      rw [show (nw + 9 + v - (v + 1)) % 8 = nw by omega] at this
      exact WIX_same this (fun k hk => cpy7 hk) (fun k hk => cpy7 hk) (fun k hk => by rw [e2 k, if_pos (by omega)])
    · have := hi i (by omega)
      rw [show (nw + 9 + i - (v + 1)) % 8 = ((nw + 7) % 8 + 9 + i - v) % 8 by omega] at this
      exact this
def KER (n : Nat) (isKept : Nat → Int32) (kD kF : Nat → Int32) (kH kV : Nat → Nat → Int32) (mKept kept : Nat → Int32) : Prop := ∀ k, k < 2 → isKept k = mKept k ∧ (isKept k = 0 ∨ WIX n (kD k) (kF k) (kH k) (kV k) (fun j => kept (15 * k + j)))
theorem p_keep_cp {x : Nat} (hx : x < 2) (st ik : Nat → Int32) : ∀ (m k F : Nat) (kp : Nat → Int32), k + m = 15 → m < F → ∃ kp', f_X9_keep_b15 st F (nI x) (nI k) ik kp = some (st 14, upd ik x 1, kp') ∧ ∀ j, kp' j = if 15 * x + k ≤ j ∧ j < 15 * x + 15 then st (j - 15 * x) else kp j := by
  intro m
  induction m with
  | zero =>
    intro k F kp hk hF
    obtain ⟨F, rfl⟩ : ∃ F', F = F' + 1 := ⟨F - 1, by omega⟩
    refine ⟨kp, ?_, fun j => by rw [if_neg (by omega)]⟩
    show f_X9_keep_s15 st (f_X9_keep_b15 st F) (nI x) (nI k) ik kp = _
    unfold f_X9_keep_s15
    rw [if_pos (show (15 : Int32) ≤ nI k from nI_le (a := 15) (b := k) (by omega) (by omega)), gd_nI hx (by omega), cl (by omega)]
    rfl
  | succ m ih =>
    intro k F kp hk hF
    obtain ⟨F, rfl⟩ : ∃ F', F = F' + 1 := ⟨F - 1, by omega⟩
    obtain ⟨kp', e1, e2⟩ := ih (k + 1) F (upd kp (15 * x + k) (st k)) (by omega) (by omega)
    refine ⟨kp', ?_, fun j => ?_⟩
    · show f_X9_keep_s15 st (f_X9_keep_b15 st F) (nI x) (nI k) ik kp = _
      unfold f_X9_keep_s15
      rw [if_neg (show ¬ (15 : Int32) ≤ nI k from nI_ge (a := k) (b := 15) (by omega) (by omega)), gd_nI (by omega) (by omega), p_15 x (by omega), nI_add, gd_nI (by omega) (by omega), cl (by omega), cl (by omega), nI_1]
      exact e1
    · rw [e2 j]
      by_cases hj : j = 15 * x + k
      · subst hj
        rw [if_neg (by omega), if_pos (by omega), pk_us]
        exact congrArg st (by omega)
      · rw [pk_un hj]
        by_cases q : 15 * x + (k + 1) ≤ j ∧ j < 15 * x + 15
        · rw [if_pos q, if_pos (by omega)]
        · rw [if_neg q, if_neg (by omega)]
theorem p_k01 (x : Int32) : (∃ k, k < 2 ∧ x = nI k ∧ ¬ x < 0 ∧ x < 2 ∧ f_X9_in (Int32.toInt64 x) 0 1 = some 1) ∨ ((x < 0 ∨ ¬ x < 2) ∧ f_X9_in (Int32.toInt64 x) 0 1 = some 0) := by
  rcases p_rng (hi := 1) (by decide) x with ⟨k, hk, hx, h1, h2, h9⟩ | ⟨ho, h9⟩
  · exact Or.inl ⟨k, by omega, hx, h1, by rw [hx]; exact nI_lt (a := k) (b := 2) (by omega) (by omega), h9⟩
  · refine Or.inr ⟨?_, h9⟩
    rcases ho with h | h
    · exact Or.inl h
    · refine Or.inr (fun q => h ?_)
      have a := Int32.lt_iff_toInt_lt.mp q
      apply Int32.le_iff_toInt_le.mpr
      have e2 : (2 : Int32).toInt = 2 := rfl
      have e1 : (nI 1).toInt = 1 := rfl
      omega
theorem q_keep {n : Nat} {date frozen : Int32} {healths fav st isKept kD kF mKept kept : Nat → Int32} {kH kV : Nat → Nat → Int32} (W : WIX n date frozen healths fav st) (K : KER n isKept kD kF kH kV mKept kept) (x : Int32) : ∃ r kD' kF' kH' kV' isKept' mKept' kept', f_X8_keep kD kF date frozen healths kH fav kV isKept x = some (r, kD', kF', kH', kV', isKept') ∧ f_X9_keep mKept st kept x = some (r, mKept', kept') ∧ KER n isKept' kD' kF' kH' kV' mKept' kept' := by
  unfold f_X8_keep f_X9_keep
  rcases p_k01 x with ⟨k, hk, rfl, h1, h2, h9⟩ | ⟨ho, h9⟩
  · obtain ⟨kp', e1, e2⟩ := p_keep_cp hk st mKept 15 0 5000 kept (by omega) (by omega)
    rw [nI_0] at e1
    unfold f_X7_copyFrom
    rw [if_neg h1, if_pos h2, h9, bs, if_neg (show ¬ (1 : Int32) = 0 by decide), e1, gdx_nI hk (by omega), bd4s, gd_nI hk (by omega), cl (by omega)]
    have hdd : date = st 14 := by
      obtain ⟨d, h, lk, Wi⟩ := W
      rw [Wi.2.1, Wi.2.2.1]
    rw [hdd]
    refine ⟨_, _, _, _, _, _, _, _, rfl, rfl, fun j hj => ?_⟩
    by_cases e : j = k
    · subst e
      refine ⟨by rw [pk_us, pk_us]; rfl, Or.inr ?_⟩
      rw [va_up_self, va_up_self, va_up_self, va_up_self, ← hdd]
      refine WIX_same W (fun k hk => cpy7 hk) (fun k hk => cpy7 hk) (fun k hk => ?_)
      show kp' (15 * j + k) = st k
      rw [e2 _, if_pos (by omega)]
      exact congrArg st (by omega)
    · obtain ⟨c1, c2⟩ := K j hj
      refine ⟨by rw [pk_un e, pk_un e]; exact c1, ?_⟩
      rw [pk_un e]
      rcases c2 with c | c
      · exact Or.inl c
      · refine Or.inr ?_
        rw [va_up_ne _ _ e, va_up_ne _ _ e, va_up_ne _ _ e, va_up_ne _ _ e]
        refine WIX_same c (fun k hk => rfl) (fun k hk => rfl) (fun i hi => ?_)
        show kp' (15 * j + i) = kept (15 * j + i)
        rw [e2 _, if_neg (by omega)]
  · rw [h9]
    refine ⟨-2, _, _, _, _, _, _, _, ?_, rfl, K⟩
    by_cases h1 : x < 0
    · rw [if_pos h1]
    · rw [if_neg h1, if_neg (ho.resolve_left h1)]
theorem p_back_cp {x : Nat} (hx : x < 2) (ik kp : Nat → Int32) (um : Int32) : ∀ (m k F : Nat) (st : Nat → Int32), k + m = 15 → m < F → ∃ st', f_X9_back_b27 ik kp F (nI x) (nI k) um st = some (st' 14, 0, st') ∧ ∀ j, st' j = if k ≤ j ∧ j < 15 then kp (15 * x + j) else st j := by
  intro m
  induction m with
  | zero =>
    intro k F st hk hF
    obtain ⟨F, rfl⟩ : ∃ F', F = F' + 1 := ⟨F - 1, by omega⟩
    refine ⟨st, ?_, fun j => by rw [if_neg (by omega)]⟩
    show f_X9_back_s27 ik kp (f_X9_back_b27 ik kp F) (nI x) (nI k) um st = _
    unfold f_X9_back_s27
    rw [if_pos (show (15 : Int32) ≤ nI k from nI_le (a := 15) (b := k) (by omega) (by omega))]
  | succ m ih =>
    intro k F st hk hF
    obtain ⟨F, rfl⟩ : ∃ F', F = F' + 1 := ⟨F - 1, by omega⟩
    obtain ⟨st', e1, e2⟩ := ih (k + 1) F (upd st k (kp (15 * x + k))) (by omega) (by omega)
    refine ⟨st', ?_, fun j => ?_⟩
    · show f_X9_back_s27 ik kp (f_X9_back_b27 ik kp F) (nI x) (nI k) um st = _
      unfold f_X9_back_s27
      rw [if_neg (show ¬ (15 : Int32) ≤ nI k from nI_ge (a := k) (b := 15) (by omega) (by omega)), p_15 x (by omega), nI_add, gd_nI (by omega) (by omega), gd_nI (by omega) (by omega), cl (by omega), cl (by omega), nI_1]
      exact e1
    · rw [e2 j]
      by_cases hj : j = k
      · subst hj
        rw [if_neg (by omega), if_pos (by omega), pk_us]
      · rw [pk_un hj]
        by_cases q : k + 1 ≤ j ∧ j < 15
        · rw [if_pos q, if_pos (by omega)]
        · rw [if_neg q, if_neg (by omega)]
theorem PAR_0 {n nw : Nat} (hnw : nw < 8) (uD uF : Nat → Int32) (uH uV : Nat → Nat → Int32) (ahead : Nat → Int32) : PAR n 0 (nI nw) uD uF uH uV 0 ahead := ⟨0, nw, by omega, hnw, rfl, rfl, rfl, fun i hi => absurd hi (Nat.not_lt_zero i)⟩
theorem q_back {n : Nat} {date frozen size newest many : Int32} {healths fav st uD uF ahead isKept kD kF mKept kept : Nat → Int32} {uH uV kH kV : Nat → Nat → Int32} (W : WIX n date frozen healths fav st) (P : PAR n size newest uD uF uH uV many ahead) (K : KER n isKept kD kF kH kV mKept kept) (x : Int32) : ∃ r size' date' frozen' healths' fav' many' st', f_X8_back size isKept date frozen kD kF kH healths kV fav x = some (r, size', date', frozen', healths', fav') ∧ f_X9_back many mKept st kept x = some (r, many', st') ∧ WIX n date' frozen' healths' fav' st' ∧ PAR n size' newest uD uF uH uV many' ahead := by
  unfold f_X8_back f_X9_back
  rcases p_k01 x with ⟨k, hk, rfl, h1, h2, h9⟩ | ⟨ho, h9⟩
  · obtain ⟨c1, c2⟩ := K k hk
    rw [if_neg h1, if_pos h2, h9, bs, if_neg (show ¬ (1 : Int32) = 0 by decide), gd_nI hk (by omega), gd_nI hk (by omega), cl (by omega), c1]
    by_cases h0 : mKept k = 0
    · rw [if_pos h0, if_pos h0]
      exact ⟨_, _, _, _, _, _, _, _, rfl, rfl, W, P⟩
    · have c := c2.resolve_left (by rw [c1]; exact h0)
      obtain ⟨st', e1, e2⟩ := p_back_cp hk mKept kept many 15 0 5000 st (by omega) (by omega)
      rw [nI_0] at e1
      unfold f_X7_copyFrom
      rw [if_neg h0, if_neg h0, gdx_nI hk (by omega), bd4s, e1]
      obtain ⟨u, nw, hu, hnw, rfl, rfl, rfl, hi⟩ := P
      have WW : WIX n (kD k) (kF k) (va_cpy (kH k) healths 0 0 7) (va_cpy (kV k) fav 0 0 7) st' := WIX_same c (fun k hk => cpy7 hk) (fun k hk => cpy7 hk) (fun j hj => by rw [e2 j, if_pos (by omega)])
      have hdd : kD k = st' 14 := by
        obtain ⟨d, h, lk, Wi⟩ := WW
        rw [Wi.2.1, Wi.2.2.1]
      refine ⟨kD k, _, _, _, _, _, _, _, rfl, by rw [hdd], WW, PAR_0 hnw uD uF uH uV ahead⟩
  · rw [h9]
    refine ⟨-2, _, _, _, _, _, _, _, ?_, rfl, W, P⟩
    by_cases h1 : x < 0
    · rw [if_pos h1]
    · rw [if_neg h1, if_neg (ho.resolve_left h1)]
theorem p_forgetAll (sz : Int32) (ik : Nat → Int32) : ∃ ik', f_X1_forgetAll sz ik = some (0, ik') ∧ ik' 0 = 0 ∧ ik' 1 = 0 := by
  refine ⟨upd (upd ik 0 0) 1 0, rfl, ?_, ?_⟩
  · rw [pk_un (by decide), pk_us]
  · rw [pk_us]
