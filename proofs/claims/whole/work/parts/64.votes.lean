def VOR (n v : Nat) (vs : Nat → Nat) (vn vo : Nat → Bool) (size : Int32) (sets nights outs : Nat → Int32) (many : Int32) (seens : Nat → Int32) : Prop := v ≤ 6 ∧ size = nI v ∧ many = nI v ∧ ∀ i, i < v → vs i < 2 ^ n ∧ sets i = nI (vs i) ∧ nights i = b2 (vn i) ∧ outs i = b2 (vo i) ∧ seens (3 * i) = nI (vs i) ∧ seens (3 * i + 1) = b2 (vn i) ∧ seens (3 * i + 2) = b2 (vo i)
theorem VOR_0 (n : Nat) (vs : Nat → Nat) (vn vo : Nat → Bool) (sets nights outs seens : Nat → Int32) : VOR n 0 vs vn vo 0 sets nights outs 0 seens := ⟨by decide, rfl, rfl, fun i hi => absurd hi (Nat.not_lt_zero i)⟩
theorem p_yn (x : Int32) : (∃ b : Bool, x = b2 b ∧ f_X8_isYesOrNo x = some 1 ∧ f_X9_in (Int32.toInt64 x) 0 1 = some 1) ∨ (f_X8_isYesOrNo x = some 0 ∧ f_X9_in (Int32.toInt64 x) 0 1 = some 0) := by
  unfold f_X8_isYesOrNo f_X8_isYesOrNo_b9
  rcases p_rng (hi := 1) (by decide) x with ⟨k, hk, hx, h1, h2, h9⟩ | ⟨ho, h9⟩
  · left
    rcases (show k = 0 ∨ k = 1 by omega) with rfl | rfl
    · exact ⟨false, hx, by rw [if_pos (show x = 0 from hx)], h9⟩
    · exact ⟨true, hx, by rw [if_neg (by rw [hx]; decide), if_pos (show x = 1 from hx)], h9⟩
  · right
    refine ⟨?_, h9⟩
    rw [if_neg, if_neg]
    · intro q; subst q; rcases ho with h | h
      · exact absurd h (by decide)
      · exact h (by decide)
    · intro q; subst q; rcases ho with h | h
      · exact absurd h (by decide)
      · exact h (by decide)
theorem p_3v : ∀ v, v < 6 → (3 : Int32) * nI v = nI (3 * v) ∧ (3 : Int32) * nI v + 1 = nI (3 * v + 1) ∧ (3 : Int32) * nI v + 2 = nI (3 * v + 2) := by decide +kernel
theorem nar_b (b : Bool) : vp_nar .boolean (b2 b) = b2 b := by cases b <;> rfl
theorem b2_1 (b : Bool) : (if b2 b = 1 then (1 : Int32) else 0) = b2 b := by cases b <;> rfl
theorem q_seen {n v : Nat} {vs : Nat → Nat} {vn vo : Nat → Bool} {size many : Int32} {sets nights outs seens told : Nat → Int32} (hn : n ≤ 7) (t0 : told 0 = nI n) (V : VOR n v vs vn vo size sets nights outs many seens) (x y z : Int32) : ∃ r size' sets' nights' outs' many' seens', f_X8_seen (nI n) size sets nights outs x y z = some (r, size', sets', nights', outs') ∧ f_X9_seen many told seens x y z = some (r, many', seens') ∧ ∃ v' vs' vn' vo', VOR n v' vs' vn' vo' size' sets' nights' outs' many' seens' := by
  unfold f_X8_seen f_X9_seen
  rcases p_set hn t0 x with ⟨s, hs, rfl, e8, e9⟩ | ⟨e8, e9⟩
  · rw [e8, e9, bs, bs, if_neg (show ¬ (1 : Int32) = 0 by decide), if_neg (show ¬ (1 : Int32) = 0 by decide)]
    rcases p_yn y with ⟨by', rfl, y8, y9⟩ | ⟨y8, y9⟩
    · rw [y8, y9, bs, bs, if_neg (show ¬ (1 : Int32) = 0 by decide), if_neg (show ¬ (1 : Int32) = 0 by decide)]
      rcases p_yn z with ⟨bz, rfl, z8, z9⟩ | ⟨z8, z9⟩
      · rw [z8, z9, bs, bs, if_neg (show ¬ (1 : Int32) = 0 by decide), if_neg (show ¬ (1 : Int32) = 0 by decide)]
        obtain ⟨hv, rfl, rfl, hi⟩ := V
        by_cases h6 : v = 6
        · subst h6
          exact ⟨_, _, _, _, _, _, _, rfl, rfl, _, _, _, _, hv, rfl, rfl, hi⟩
        · have hv6 : v < 6 := by omega
          obtain ⟨m1, m2, m3⟩ := p_3v v hv6
          rw [if_neg (show ¬ nI v = 6 from fun q => h6 ((nI_eq (a := v) (b := 6) (by omega) (by omega)).mp q)), if_pos (show nI v < 6 from nI_lt (a := v) (b := 6) hv6 (by omega))]
          rw [m2, m3, m1, gd_nI (by omega) (by omega), gd_nI (by omega) (by omega), gd_nI (by omega) (by omega), cl (by omega), cl (by omega), cl (by omega)]
          unfold f_X8_seen_b58 f_X8_seen_b68 f_X6_add
          simp only [if_neg (show ¬ (6 : Int32) ≤ nI v from nI_ge (a := v) (b := 6) hv6 (by omega)), gd_nI hv6 (show 6 < 2 ^ 31 by decide), cl (show v < 2 ^ 31 by omega)]
          have key : ∀ (b c : Bool), (if b2 b = 1 then (if b2 c = 1 then bd4 (some (nI v + 1, upd sets v (nI s), upd nights v (vp_nar .boolean 1), upd outs v (vp_nar .boolean 1))) (fun y7_0 y7_1 y7_2 y7_3 => some (y7_0, y7_0, y7_1, y7_2, y7_3)) else bd4 (some (nI v + 1, upd sets v (nI s), upd nights v (vp_nar .boolean 1), upd outs v (vp_nar .boolean 0))) (fun y7_0 y7_1 y7_2 y7_3 => some (y7_0, y7_0, y7_1, y7_2, y7_3))) else (if b2 c = 1 then bd4 (some (nI v + 1, upd sets v (nI s), upd nights v (vp_nar .boolean 0), upd outs v (vp_nar .boolean 1))) (fun y7_0 y7_1 y7_2 y7_3 => some (y7_0, y7_0, y7_1, y7_2, y7_3)) else bd4 (some (nI v + 1, upd sets v (nI s), upd nights v (vp_nar .boolean 0), upd outs v (vp_nar .boolean 0))) (fun y7_0 y7_1 y7_2 y7_3 => some (y7_0, y7_0, y7_1, y7_2, y7_3)))) = some (nI v + 1, nI v + 1, upd sets v (nI s), upd nights v (b2 b), upd outs v (b2 c)) := by
            intro b c
            cases b <;> cases c <;> rfl
          refine ⟨_, _, _, _, _, _, _, key by' bz, rfl, v + 1, fun i => if i = v then s else vs i, fun i => if i = v then by' else vn i, fun i => if i = v then bz else vo i, by omega, nI_1 v, nI_1 v, fun i hi' => ?_⟩
          by_cases e : i = v
          · subst e
            simp only [eq_self, if_true]
            refine ⟨hs, pk_us, pk_us, pk_us, ?_, ?_, ?_⟩
            · rw [pk_un (by omega), pk_un (by omega), pk_us]
            · rw [pk_un (by omega), pk_us]
            · rw [pk_us]
          · simp only [if_neg e]
            obtain ⟨g0, g1, g2, g3, g4, g5, g6⟩ := hi i (by omega)
            refine ⟨g0, by rw [pk_un e]; exact g1, by rw [pk_un e]; exact g2, by rw [pk_un e]; exact g3, ?_, ?_, ?_⟩
            · rw [pk_un (by omega), pk_un (by omega), pk_un (by omega)]; exact g4
            · rw [pk_un (by omega), pk_un (by omega), pk_un (by omega)]; exact g5
            · rw [pk_un (by omega), pk_un (by omega), pk_un (by omega)]; exact g6
      · rw [z8, z9]
        exact ⟨_, _, _, _, _, _, _, rfl, rfl, _, _, _, _, V⟩
    · rw [y8, y9]
      exact ⟨_, _, _, _, _, _, _, rfl, rfl, _, _, _, _, V⟩
  · rw [e8, e9]
    exact ⟨_, _, _, _, _, _, _, rfl, rfl, _, _, _, _, V⟩
def agA (W : Nat → Int32) (vo : Nat → Bool) (q : Nat) : Nat → Bool
  | 0 => true
  | k + 1 => agA W vo q k && ((!decide (W k < nI q)) == vo k)
theorem agA_false {W : Nat → Int32} {vo : Nat → Bool} {q k : Nat} (h : agA W vo q k = false) : ∀ m, agA W vo q (k + m) = false := by
  intro m
  induction m with
  | zero => exact h
  | succ m ih => show agA W vo q (k + m + 1) = false; rw [agA, ih]; rfl
def wVo (kinds : Nat → Int32) (n : Nat) (vs : Nat → Nat) (vn : Nat → Bool) (i : Nat) : Int32 := wsum (fun k => wtI (kinds k) (vn i)) (vs i) n
theorem p_agree {n v q : Nat} {vs : Nat → Nat} {vn vo : Nat → Bool} {size many : Int32} {sets nights outs seens kinds : Nat → Int32} (hn : n ≤ 7) (V : VOR n v vs vn vo size sets nights outs many seens) : ∀ (m k F : Nat), k + m = v → m < F → agA (wVo kinds n vs vn) vo q k = true → f_X6_agreeWith_b2 size (nI n) sets nights kinds outs F (nI q) (nI k) = some (b2 (agA (wVo kinds n vs vn) vo q v)) := by
  obtain ⟨hv, rfl, rfl, hi⟩ := V
  have hp : 2 ^ n ≤ 2 ^ 7 := Nat.pow_le_pow_right (by decide) hn
  intro m
  induction m with
  | zero =>
    intro k F hk hF ha
    obtain ⟨F, rfl⟩ : ∃ F', F = F' + 1 := ⟨F - 1, by omega⟩
    obtain rfl : k = v := by omega
    show f_X6_agreeWith_s2 _ _ _ _ _ _ (f_X6_agreeWith_b2 (nI k) (nI n) sets nights kinds outs F) _ _ = _
    unfold f_X6_agreeWith_s2
    rw [if_pos (nI_le (Nat.le_refl _) (by omega)), ha]
    rfl
  | succ m ih =>
    intro k F hk hF ha
    obtain ⟨F, rfl⟩ : ∃ F', F = F' + 1 := ⟨F - 1, by omega⟩
    obtain ⟨g0, g1, g2, g3, -, -, -⟩ := hi k (by omega)
    show f_X6_agreeWith_s2 _ _ _ _ _ _ (f_X6_agreeWith_b2 (nI v) (nI n) sets nights kinds outs F) _ _ = _
    unfold f_X6_agreeWith_s2 f_X6_agreeWith_b35
    rw [if_neg (nI_ge (by omega) (by omega)), gd_nI (by omega) (by omega), gd_nI (by omega) (by omega), gd_nI (by omega) (by omega), gd_nI (by omega) (by omega), cl (by omega), g1, g2, g3, p_weightOfSet hn (by omega), bs, nI_1]
    show (if wVo kinds n vs vn k < nI q then _ else _) = _
    have hs : agA (wVo kinds n vs vn) vo q (k + 1) = ((!decide (wVo kinds n vs vn k < nI q)) == vo k) := by rw [agA, ha, Bool.true_and]
    have hT := ih (k + 1) F (by omega) (by omega)
    have hFa : agA (wVo kinds n vs vn) vo q (k + 1) = false → agA (wVo kinds n vs vn) vo q v = false := fun z => by
      have := agA_false z m
      rwa [show k + 1 + m = v by omega] at this
    by_cases h1 : wVo kinds n vs vn k < nI q
    · rw [if_pos h1]
      cases ho : vo k with
      | true =>
        rw [if_neg (show ¬ (0 : Int32) = b2 true by decide), hFa (by rw [hs, ho]; simp [h1])]
        rfl
      | false =>
        rw [if_pos (show (0 : Int32) = b2 false from rfl)]
        exact hT (by rw [hs, ho]; simp [h1])
    · rw [if_neg h1]
      cases ho : vo k with
      | true =>
        rw [if_pos (show (1 : Int32) = b2 true from rfl)]
        exact hT (by rw [hs, ho]; simp [h1])
      | false =>
        rw [if_neg (show ¬ (1 : Int32) = b2 false by decide), hFa (by rw [hs, ho]; simp [h1])]
        rfl
theorem p_qin {n v q : Nat} {vs : Nat → Nat} {vn vo : Nat → Bool} {size many : Int32} {sets nights outs seens kinds told : Nat → Int32} (hn : n ≤ 7) (t0 : told 0 = nI n) (tk : ∀ f, f < 7 → told (3 + f) = kinds f) (V : VOR n v vs vn vo size sets nights outs many seens) (K : Int32 → Int32 → Option Int32) (x1 : Int32) : ∀ (m k F : Nat), k + m = v → m < F → f_X9_quotas_b15 many seens told K F x1 (nI q) (b2 (agA (wVo kinds n vs vn) vo q k)) (nI k) = K (x1 ||| (if agA (wVo kinds n vs vn) vo q v then (1 : Int32) <<< (nI q &&& 31) else 0)) (nI (q + 1)) := by
  obtain ⟨hv, rfl, rfl, hi⟩ := V
  have hp : 2 ^ n ≤ 2 ^ 7 := Nat.pow_le_pow_right (by decide) hn
  intro m
  induction m with
  | zero =>
    intro k F hk hF
    obtain ⟨F, rfl⟩ : ∃ F', F = F' + 1 := ⟨F - 1, by omega⟩
    obtain rfl : k = v := by omega
    show f_X9_quotas_s15 _ _ _ K (f_X9_quotas_b15 (nI k) seens told K F) _ _ _ _ = _
    unfold f_X9_quotas_s15 f_X9_quotas_b121
    rw [if_pos (nI_le (Nat.le_refl _) (by omega)), nI_1]
    cases agA (wVo kinds n vs vn) vo q k <;> rfl
  | succ m ih =>
    intro k F hk hF
    obtain ⟨F, rfl⟩ : ∃ F', F = F' + 1 := ⟨F - 1, by omega⟩
    obtain ⟨g0, -, -, -, g4, g5, g6⟩ := hi k (by omega)
    obtain ⟨m1, m2, m3⟩ := p_3v k (by omega)
    have h2 := ih (k + 1) F (by omega) (by omega)
    rw [agA] at h2
    show f_X9_quotas_s15 _ _ _ K (f_X9_quotas_b15 (nI v) seens told K F) _ _ _ _ = _
    unfold f_X9_quotas_s15 f_X9_quotas_b54 f_X9_quotas_b66 f_X9_quotas_b94 f_X9_quotas_b101 f_X9_quotas_b102
    rw [if_neg (nI_ge (by omega) (by omega))]
    simp only [m2, m3]
    simp only [m1, gd_nI (show 3 * k < 18 by omega) (show 18 < 2 ^ 31 by decide), gd_nI (show 3 * k + 1 < 18 by omega) (show 18 < 2 ^ 31 by decide), gd_nI (show 3 * k + 2 < 18 by omega) (show 18 < 2 ^ 31 by decide), cl (show 3 * k < 2 ^ 31 by omega), cl (show 3 * k + 1 < 2 ^ 31 by omega), cl (show 3 * k + 2 < 2 ^ 31 by omega), g4, g5, g6, nI_1]
    have w0 : f_X9_weightsBy told (nI (vs k)) (b2 (vn k)) = some (wVo kinds n vs vn k) := by
      rw [p_weightsBy hn (by omega) told t0]
      unfold wVo
      rw [wsum_congr (fun j hj => by rw [tk j (by omega)])]
    have key : ∀ (X : Int32 → Option Int32), (if b2 (vn k) = 1 then (f_X9_weightsBy told (nI (vs k)) 1).bind X else (f_X9_weightsBy told (nI (vs k)) 0).bind X) = X (wVo kinds n vs vn k) := by
      intro X
      cases hb : vn k with
      | true => rw [hb] at w0; rw [if_pos (show b2 true = 1 from rfl)]; rw [show (1 : Int32) = b2 true from rfl, w0]; rfl
      | false => rw [hb] at w0; rw [if_neg (show ¬ b2 false = 1 by decide)]; rw [show (0 : Int32) = b2 false from rfl, w0]; rfl
    rw [key]
    cases hA : agA (wVo kinds n vs vn) vo q k with
    | false =>
      rw [hA, Bool.false_and] at h2
      simp only [if_pos (show b2 false = 0 from rfl)]
      split <;> exact h2
    | true =>
      rw [hA, Bool.true_and] at h2
      simp only [if_neg (show ¬ b2 true = 0 by decide)]
      by_cases h1 : wVo kinds n vs vn k < nI q
      · rw [if_pos h1]
        simp only [h1, decide_true, Bool.not_true] at h2
        cases ho : vo k with
        | true =>
          rw [ho] at h2
          rw [if_pos (show b2 true = 1 from rfl), if_neg (show ¬ (0 : Int32) = 1 by decide)]
          exact h2
        | false =>
          rw [ho] at h2
          rw [if_neg (show ¬ b2 false = 1 by decide)]
          simp only [if_true]
          exact h2
      · rw [if_neg h1]
        simp only [h1, decide_false, Bool.not_false] at h2
        cases ho : vo k with
        | true =>
          rw [ho] at h2
          rw [if_pos (show b2 true = 1 from rfl)]
          simp only [if_true]
          exact h2
        | false =>
          rw [ho] at h2
          rw [if_neg (show ¬ b2 false = 1 by decide), if_neg (show ¬ (1 : Int32) = 0 by decide)]
          exact h2
theorem p_bit20 : ∀ k, k < 21 → ((1 : Int32) <<< (nI k &&& 31)) = nI (2 ^ k) := by decide +kernel
theorem q_quotas {n v : Nat} {vs : Nat → Nat} {vn vo : Nat → Bool} {size many : Int32} {sets nights outs seens kinds told : Nat → Int32} (hn : n ≤ 7) (t0 : told 0 = nI n) (tk : ∀ f, f < 7 → told (3 + f) = kinds f) (V : VOR n v vs vn vo size sets nights outs many seens) : ∃ r, f_X8_quotas size (nI n) sets nights kinds outs = some r ∧ f_X9_quotas many seens told = some r := by
  have hv := V.1
  have loop : ∀ (m k F : Nat) (x1 : Int32), k + m = 21 → m < F → ∃ r, f_X8_quotas_b4 size (nI n) sets nights kinds outs F x1 (nI k) = some r ∧ f_X9_quotas_b4 many seens told F x1 (nI k) = some r := by
    intro m
    induction m with
    | zero =>
      intro k F x1 hk hF
      obtain ⟨F, rfl⟩ : ∃ F', F = F' + 1 := ⟨F - 1, by omega⟩
      obtain rfl : k = 21 := by omega
      refine ⟨x1, ?_, ?_⟩
      · show f_X8_quotas_s4 size (nI n) sets nights kinds outs (f_X8_quotas_b4 size (nI n) sets nights kinds outs F) x1 (nI 21) = _
        unfold f_X8_quotas_s4
        rw [if_pos (show (20 : Int32) < nI 21 by decide)]
      · show f_X9_quotas_s4 many seens told (f_X9_quotas_b4 many seens told F) x1 (nI 21) = _
        unfold f_X9_quotas_s4
        rw [if_pos (show (20 : Int32) < nI 21 by decide)]
    | succ m ih =>
      intro k F x1 hk hF
      obtain ⟨F, rfl⟩ : ∃ F', F = F' + 1 := ⟨F - 1, by omega⟩
      have hk20 : ¬ (20 : Int32) < nI k := fun q => by
        have := (nI_nlt (a := 20) (b := k) (by omega) (by omega))
        exact this q
      have a : f_X6_agreeWith size (nI n) sets nights kinds outs (nI k) = some (b2 (agA (wVo kinds n vs vn) vo k v)) := p_agree hn V v 0 5000 (by omega) (by omega) rfl
      have b : f_X9_quotas_b15 many seens told (f_X9_quotas_b4 many seens told F) 5000 x1 (nI k) 1 0 = _ := p_qin (q := k) hn t0 tk V (f_X9_quotas_b4 many seens told F) x1 v 0 5000 (by omega) (by omega)
      show ∃ r, f_X8_quotas_s4 size (nI n) sets nights kinds outs (f_X8_quotas_b4 size (nI n) sets nights kinds outs F) x1 (nI k) = some r ∧ f_X9_quotas_s4 many seens told (f_X9_quotas_b4 many seens told F) x1 (nI k) = some r
      unfold f_X8_quotas_s4 f_X9_quotas_s4 f_X8_quotas_b32
      rw [if_neg hk20, if_neg hk20, a, bs, b, p_bit k (by omega), bs, nI_1]
      cases agA (wVo kinds n vs vn) vo k v with
      | true =>
        rw [if_neg (show ¬ b2 true = 0 by decide), if_pos rfl, p_bit20 k (by omega)]
        exact ih (k + 1) F _ (by omega) (by omega)
      | false =>
        rw [if_pos (show b2 false = 0 from rfl), if_neg (by decide), p_or0]
        exact ih (k + 1) F _ (by omega) (by omega)
  exact loop 20 1 5000 0 (by omega) (by omega)
