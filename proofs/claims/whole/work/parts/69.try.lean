theorem bd8s {A0 A1 A2 A3 A4 A5 A6 A7 R : Type} (a0 : A0) (a1 : A1) (a2 : A2) (a3 : A3) (a4 : A4) (a5 : A5) (a6 : A6) (a7 : A7) (k : A0 → A1 → A2 → A3 → A4 → A5 → A6 → A7 → Option R) : bd8 (some (a0, a1, a2, a3, a4, a5, a6, a7)) k = k a0 a1 a2 a3 a4 a5 a6 a7 := rfl
def CTX (n q c : Nat) (wn cd : Nat → Nat) (kinds warmths colds : Nat → Int32) : Prop := n ≤ 7 ∧ (1 ≤ q ∧ q ≤ 20) ∧ c ≤ 6 ∧ (∀ k, k < n → warmths k = nI (wn k) ∧ wn k ≤ 9) ∧ (∀ j, cd j ≤ 40) ∧ (∀ j, j < c → colds j = nI (cd j))
def WS (n d : Nat) (H : Nat → Nat) (lk : Nat → Nat → Bool) (date frozen : Int32) (healths fav : Nat → Int32) : Prop := date = nI d ∧ frozen = nI (zset n H) ∧ (∀ k, k < 7 → healths k = nI (H k)) ∧ (∀ b, b < 7 → fav b = nI (fset n lk b))
abbrev nxT (kinds : Nat → Int32) (wn cd : Nat → Nat) (n q c : Nat) (lk : Nat → Nat → Bool) (d : Nat) (H : Nat → Nat) (a : Option Nat) : Nat → Nat := nextH kinds wn cd n q c d H lk a
theorem HB_next {kinds : Nat → Int32} {wn cd : Nat → Nat} {n q c : Nat} {lk : Nat → Nat → Bool} {d : Nat} {H : Nat → Nat} (h : HB n H) (a : Option Nat) : HB n (nxT kinds wn cd n q c lk d H a) := by
  refine ⟨fun k => ?_, fun k hk => ?_⟩
  · unfold nxT nextH
    exact dayH_le h.1 k
  · unfold nxT nextH dayH
    rw [if_pos (h.2 k hk)]
theorem nx_skip {kinds : Nat → Int32} {wn cd : Nat → Nat} {n q c : Nat} {lk : Nat → Nat → Bool} {d : Nat} {H : Nat → Nat} {f : Nat} (h : worn kinds q n d H lk f = false) : nxT kinds wn cd n q c lk d H (some f) = nxT kinds wn cd n q c lk d H none := by
  have e : wearer kinds q n d H lk (some f) = none := by
    show (if worn kinds q n d H lk f = true then some f else none) = none
    rw [h]; rfl
  show nextH kinds wn cd n q c d H lk (some f) = nextH kinds wn cd n q c d H lk none
  unfold nextH
  rw [e]
  rfl
theorem i_m1 (a : Nat) : (nI a - 1) + 1 = nI (a + 1) - 1 := by rw [nI_pred, Int32.sub_add_cancel]
abbrev LF (kinds : Nat → Int32) (wn cd : Nat → Nat) (n q c : Nat) (lk : Nat → Nat → Bool) (m d : Nat) (H : Nat → Nat) (base : Nat) (acc : Nat × Nat × Nat) (k : Nat) : Nat × Nat × Nat := linF (nxT kinds wn cd n q c lk) (n + 1) (fwT n) hsT m d H base acc k
theorem LF_0 {kinds : Nat → Int32} {wn cd : Nat → Nat} {n q c : Nat} {lk : Nat → Nat → Bool} {d : Nat} {H : Nat → Nat} {base : Nat} {acc : Nat × Nat × Nat} : LF kinds wn cd n q c lk 0 d H (base * (n + 1) ^ 0) acc ((n + 1) ^ 0) = updA acc (fwT n H) (hsT H) base := by
  show updA acc (fwT n H) (hsT H) (base * 1 + 0) = _
  rw [Nat.mul_one, Nat.add_zero]
theorem w7 {f g : Nat → Int32} {h : Nat → Nat} (e : ∀ k, k < 7 → f k = nI (h k)) : ∀ k, k < 7 → va_cpy f g 0 0 7 k = nI (h k) := fun k hk => by rw [cpy7 hk]; exact e k hk
theorem try_4 {n q c N : Nat} {wn cd : Nat → Nat} {kinds warmths colds : Nat → Int32} (CT : CTX n q c wn cd kinds warmths colds) (hN : N ≤ 4) {lk : Nat → Nat → Bool} (hD : 4 ≤ N) {d : Nat} {H : Nat → Nat} {pre : Nat} {acc : Nat × Nat × Nat} {few most : Int32} {wF askers best : Nat → Int32} {wH : Nat → Nat → Int32} (hH : HB n H) (hz : wF 4 = nI (zset n H)) (hh : ∀ k, k < 7 → wH 4 k = nI (H k)) (ha : ∀ j, j < 4 → askers j = wrI (askO (pre / (n + 1) ^ (4 - 1 - j) % (n + 1)))) (R : ACR (n + 1) N acc few most best) : ∃ few' most' best', f_X3_tryFrom_4 few most wF wH askers best (nI N) = some (few', most', best') ∧ ACR (n + 1) N (LF kinds wn cd n q c lk (N - 4) d H (pre * (n + 1) ^ (N - 4)) acc ((n + 1) ^ (N - 4))) few' most' best' := by
  obtain rfl : N = 4 := by omega
  obtain ⟨few', most', best', e, R'⟩ := p_compare (r := pre) CT.1 hN hH hz hh ha R
  refine ⟨few', most', best', ?_, ?_⟩
  · unfold f_X3_tryFrom_4 f_X3_tryFrom_4_b10
    rw [e, bd3s]
    split <;> rfl
  · rw [show 4 - 4 = 0 from rfl, LF_0]
    exact R'
theorem try_3 {n q c N : Nat} {wn cd : Nat → Nat} {kinds warmths colds : Nat → Int32} (CT : CTX n q c wn cd kinds warmths colds) (hN : N ≤ 4) {lk : Nat → Nat → Bool} (hD : 3 ≤ N) {d : Nat} {H : Nat → Nat} {pre : Nat} {acc : Nat × Nat × Nat} {few most : Int32} {wD wF askers best : Nat → Int32} {wV wH : Nat → Nat → Int32} (hd : d + 4 ≤ 1010 + 3) (hH : HB n H) (W : WS n d H lk (wD 3) (wF 3) (wH 3) (wV 3)) (ha : ∀ j, j < 3 → askers j = wrI (askO (pre / (n + 1) ^ (3 - 1 - j) % (n + 1)))) (R : ACR (n + 1) N acc few most best) : ∃ few' most' wD' wF' wV' askers' wH' best', f_X3_tryFrom_3 few most (nI n) (nI q) (nI c) wD wF wV kinds askers wH colds warmths best (nI N) = some (few', most', wD', wF', wV', askers', wH', best') ∧ ACR (n + 1) N (LF kinds wn cd n q c lk (N - 3) d H (pre * (n + 1) ^ (N - 3)) acc ((n + 1) ^ (N - 3))) few' most' best' ∧ (∀ j, j ≤ 3 → wD' j = wD j ∧ wF' j = wF j ∧ wV' j = wV j ∧ wH' j = wH j) ∧ (∀ j, j < 3 → askers' j = askers j) := by
  have hn := CT.1
  unfold f_X3_tryFrom_3
  by_cases hND : N = 3
  · subst hND
    obtain ⟨few', most', best', e, R'⟩ := p_compare (r := pre) CT.1 hN hH W.2.1 W.2.2.1 ha R
    rw [if_pos (show nI 3 ≤ 3 by decide)]
    unfold f_X3_tryFrom_3_b10
    rw [e, bd3s]
    refine ⟨_, _, _, _, _, _, _, _, rfl, ?_, fun j _ => ⟨rfl, rfl, rfl, rfl⟩, fun j _ => rfl⟩
    rw [show 3 - 3 = 0 from rfl, LF_0]
    exact R'
  · have hND' : 3 < N := by omega
    obtain ⟨m, hm⟩ : ∃ m, N - 3 = m + 1 := ⟨N - 3 - 1, by omega⟩
    have hmE : N - 4 = m := by omega
    rw [if_neg (show ¬ nI N ≤ 3 from nI_ge (a := 3) (b := N) hND' (by omega)), hm]
    have loop : ∀ (m' a F : Nat) (few most : Int32) (wD wF : Nat → Int32) (wV : Nat → Nat → Int32) (askers : Nat → Int32) (wH : Nat → Nat → Int32) (best : Nat → Int32), a + m' = n + 1 → m' < F → WS n d H lk (wD 3) (wF 3) (wH 3) (wV 3) → (∀ j, j < 3 → askers j = wrI (askO (pre / (n + 1) ^ (3 - 1 - j) % (n + 1)))) → ACR (n + 1) N (LF kinds wn cd n q c lk (m + 1) d H (pre * (n + 1) ^ (m + 1)) acc ((n + 1) ^ m * a)) few most best → ∃ few' most' wD' wF' wV' askers' wH' best', f_X3_tryFrom_3_b32 (nI n) (nI q) (nI c) kinds colds warmths F (nI N) (nI a - 1) few most wD wF wV askers wH best = some (few', most', wD', wF', wV', askers', wH', best') ∧ ACR (n + 1) N (LF kinds wn cd n q c lk (m + 1) d H (pre * (n + 1) ^ (m + 1)) acc ((n + 1) ^ m * (n + 1))) few' most' best' ∧ (∀ j, j ≤ 3 → wD' j = wD j ∧ wF' j = wF j ∧ wV' j = wV j ∧ wH' j = wH j) ∧ (∀ j, j < 3 → askers' j = askers j) := by
      intro m'
      induction m' with
      | zero =>
        intro a F few most wD wF wV askers wH best hk hF W ha R
        obtain ⟨F, rfl⟩ : ∃ F', F = F' + 1 := ⟨F - 1, by omega⟩
        obtain rfl : a = n + 1 := by omega
        refine ⟨_, _, _, _, _, _, _, _, ?_, R, fun j _ => ⟨rfl, rfl, rfl, rfl⟩, fun j _ => rfl⟩
        show f_X3_tryFrom_3_s32 (nI n) (nI q) (nI c) kinds colds warmths (f_X3_tryFrom_3_b32 (nI n) (nI q) (nI c) kinds colds warmths F) (nI N) (nI (n + 1) - 1) few most wD wF wV askers wH best = _
        unfold f_X3_tryFrom_3_s32
        rw [nI_pred, if_pos (nI_le (Nat.le_refl _) (by omega))]
      | succ m' ih =>
        intro a F few most wD wF wV askers wH best hk hF W ha R
        obtain ⟨F, rfl⟩ : ∃ F', F = F' + 1 := ⟨F - 1, by omega⟩
        have haB : a < n + 1 := by omega
        obtain ⟨W1, W2, W3, W4⟩ := W
        show ∃ few' most' wD' wF' wV' askers' wH' best', f_X3_tryFrom_3_s32 (nI n) (nI q) (nI c) kinds colds warmths (f_X3_tryFrom_3_b32 (nI n) (nI q) (nI c) kinds colds warmths F) (nI N) (nI a - 1) few most wD wF wV askers wH best = some (few', most', wD', wF', wV', askers', wH', best') ∧ _
        have step : ∃ few' most' wD' wF' wV' askers' wH' best', f_X3_tryFrom_3_b61 (nI n) (nI q) (nI c) kinds colds warmths (f_X3_tryFrom_3_b32 (nI n) (nI q) (nI c) kinds colds warmths F) (nI N) (nI a - 1) few most wD wF wV askers wH best = some (few', most', wD', wF', wV', askers', wH', best') ∧ ACR (n + 1) N (LF kinds wn cd n q c lk (m + 1) d H (pre * (n + 1) ^ (m + 1)) acc ((n + 1) ^ m * (n + 1))) few' most' best' ∧ (∀ j, j ≤ 3 → wD' j = wD j ∧ wF' j = wF j ∧ wV' j = wV j ∧ wH' j = wH j) ∧ (∀ j, j < 3 → askers' j = askers j) := by
          obtain ⟨-, hq, hc, hw, hcd, hcs⟩ := CT
          obtain ⟨healths', p1, p2⟩ := p_passDay hn hq hc (show d < 1024 by omega) (askO_lt haB) (kinds := kinds) hw hcd hcs hH.1 hH.2 (w7 (g := wH 4) W3) (fun b hb => w7 (h := fset n lk) (g := wV 4) W4 b (by omega))
          unfold f_X3_tryFrom_3_b61 f_X7_copyFrom f_X3_tryFrom_3_b106
          rw [bd4s, va_up_self, va_up_self, va_up_self, va_up_self, W1, W2, askI a, p1, bd4s]
          have CT : CTX n q c wn cd kinds warmths colds := ⟨hn, hq, hc, hw, hcd, hcs⟩
          have hask : ∀ j, j < 4 → upd askers 3 (wrI (askO a)) j = wrI (askO ((pre * (n + 1) + a) / (n + 1) ^ (4 - 1 - j) % (n + 1))) := by
            intro j hj
            by_cases e : j = 3
            · subst e
              rw [pk_us, show 4 - 1 - 3 = 0 from rfl, Nat.pow_zero, Nat.div_one, Nat.mul_add_mod', Nat.mod_eq_of_lt haB]
            · rw [pk_un e, ha j (by omega), show 4 - 1 - j = (3 - 1 - j) + 1 by omega, pre_div haB]
          obtain ⟨few1, most1, best1, e4, R4⟩ := try_4 CT hN (lk := lk) (show 4 ≤ N by omega) (d := d + 1) (H := nextH kinds wn cd n q c d H lk (askO a)) (pre := pre * (n + 1) + a) (few := few) (most := most) (askers := upd askers 3 (wrI (askO a))) (best := best) (wF := va_up (va_up wF 4 (nI (zset n H))) 4 (nI (zset n (nextH kinds wn cd n q c d H lk (askO a))))) (wH := va_up (va_up wH 4 (va_cpy (wH 3) (wH 4) 0 0 7)) 4 healths') (HB_next hH (askO a)) (va_up_self _ _ _) (by rw [va_up_self]; exact p2) hask R
          rw [e4, bd3s, ← askI a, i_m1 a]
          rw [hmE] at R4
          have R5 : ACR (n + 1) N (LF kinds wn cd n q c lk (m + 1) d H (pre * (n + 1) ^ (m + 1)) acc ((n + 1) ^ m * (a + 1))) few1 most1 best1 := by
            show ACR (n + 1) N (linF (nxT kinds wn cd n q c lk) (n + 1) (fwT n) hsT (m + 1) d H (pre * (n + 1) ^ (m + 1)) acc ((n + 1) ^ m * (a + 1))) few1 most1 best1
            rw [lin_next (Nat.succ_pos n) haB]
            exact R4
          have z : ∀ {α : Type} (f : Nat → α) (x y : α), va_up (va_up f 4 x) 4 y 3 = f 3 := fun f x y => by rw [va_up_ne _ _ (by decide), va_up_ne _ _ (by decide)]
          have z1 : ∀ {α : Type} (f : Nat → α) (x : α), va_up f 4 x 3 = f 3 := fun f x => va_up_ne _ _ (by decide)
          obtain ⟨few', most', wD', wF', wV', askers', wH', best', e6, R6, x1, x2⟩ := ih (a + 1) F few1 most1 (va_up (va_up wD 4 (nI d)) 4 (nI (d + 1))) (va_up (va_up wF 4 (nI (zset n H))) 4 (nI (zset n (nextH kinds wn cd n q c d H lk (askO a))))) (va_up wV 4 (va_cpy (wV 3) (wV 4) 0 0 7)) (upd askers 3 (nI a - 1)) (va_up (va_up wH 4 (va_cpy (wH 3) (wH 4) 0 0 7)) 4 healths') best1 (by omega) (by omega) (by rw [z, z, z, z1]; exact ⟨W1, W2, W3, W4⟩) (fun j hj => by rw [pk_un (by omega)]; exact ha j hj) R5
          refine ⟨few', most', wD', wF', wV', askers', wH', best', e6, R6, fun j hj => ?_, fun j hj => ?_⟩
          · obtain ⟨y1, y2, y3, y4⟩ := x1 j hj
            refine ⟨?_, ?_, ?_, ?_⟩
            · rw [y1, va_up_ne _ _ (by omega), va_up_ne _ _ (by omega)]
            · rw [y2, va_up_ne _ _ (by omega), va_up_ne _ _ (by omega)]
            · rw [y3, va_up_ne _ _ (by omega)]
            · rw [y4, va_up_ne _ _ (by omega), va_up_ne _ _ (by omega)]
          · rw [x2 j hj, pk_un (by omega)]
        unfold f_X3_tryFrom_3_s32
        rw [if_neg (show ¬ nI n ≤ nI a - 1 from fun q => by
          have := Int32.le_iff_toInt_le.mp q
          have e1 : (nI a - 1).toInt = (a : Int) - 1 := pk_sub_toInt (a := a) (b := 1) (by omega) (by omega)
          rw [e1, nI_toI (by omega)] at this
          omega)]
        by_cases h0 : a = 0
        · subst h0
          rw [if_pos (show nI 0 - 1 = -1 by decide)]
          exact step
        · obtain ⟨f, rfl⟩ : ∃ f, a = f + 1 := ⟨a - 1, by omega⟩
          rw [if_neg (show ¬ nI (f + 1) - 1 = -1 by rw [nI_pred]; exact nI_ne_m1 (by omega)), nI_pred, W1, W2, p_carried7 hn (show f < n by omega) (show d < 1024 by omega) CT.2.1 (W4 f (by omega)), bs]
          rw [nI_pred] at step
          cases hwo : worn kinds q n d H lk f with
          | true =>
            rw [if_neg (show ¬ b2 true = 0 by decide)]
            exact step
          | false =>
            rw [if_pos (show b2 false = 0 from rfl)]
            unfold f_X3_tryFrom_3_b106
            have e1 : nI f + 1 = nI (f + 1 + 1) - 1 := by rw [nI_pred, nI_1]
            rw [e1]
            refine ih (f + 1 + 1) F few most wD wF wV askers wH best (by omega) (by omega) ⟨W1, W2, W3, W4⟩ ha ?_
            show ACR (n + 1) N (linF (nxT kinds wn cd n q c lk) (n + 1) (fwT n) hsT (m + 1) d H (pre * (n + 1) ^ (m + 1)) acc ((n + 1) ^ m * (f + 1 + 1))) few most best
            rw [lin_skip (Nat.succ_pos n) haB (Nat.succ_pos f) (nx_skip hwo)]
            exact R
    obtain ⟨few', most', wD', wF', wV', askers', wH', best', e, R', x1, x2⟩ := loop (n + 1) 0 5000 few most wD wF wV askers wH best (by omega) (by omega) W ha (by rw [Nat.mul_zero]; exact R)
    rw [← Nat.pow_succ] at R'
    exact ⟨few', most', wD', wF', wV', askers', wH', best', e, R', x1, x2⟩
theorem try_2 {n q c N : Nat} {wn cd : Nat → Nat} {kinds warmths colds : Nat → Int32} (CT : CTX n q c wn cd kinds warmths colds) (hN : N ≤ 4) {lk : Nat → Nat → Bool} (hD : 2 ≤ N) {d : Nat} {H : Nat → Nat} {pre : Nat} {acc : Nat × Nat × Nat} {few most : Int32} {wD wF askers best : Nat → Int32} {wV wH : Nat → Nat → Int32} (hd : d + 4 ≤ 1010 + 2) (hH : HB n H) (W : WS n d H lk (wD 2) (wF 2) (wH 2) (wV 2)) (ha : ∀ j, j < 2 → askers j = wrI (askO (pre / (n + 1) ^ (2 - 1 - j) % (n + 1)))) (R : ACR (n + 1) N acc few most best) : ∃ few' most' wD' wF' wV' askers' wH' best', f_X3_tryFrom_2 few most (nI n) (nI q) (nI c) wD wF wV kinds askers wH colds warmths best (nI N) = some (few', most', wD', wF', wV', askers', wH', best') ∧ ACR (n + 1) N (LF kinds wn cd n q c lk (N - 2) d H (pre * (n + 1) ^ (N - 2)) acc ((n + 1) ^ (N - 2))) few' most' best' ∧ (∀ j, j ≤ 2 → wD' j = wD j ∧ wF' j = wF j ∧ wV' j = wV j ∧ wH' j = wH j) ∧ (∀ j, j < 2 → askers' j = askers j) := by
  have hn := CT.1
  unfold f_X3_tryFrom_2
  by_cases hND : N = 2
  · subst hND
    obtain ⟨few', most', best', e, R'⟩ := p_compare (r := pre) CT.1 hN hH W.2.1 W.2.2.1 ha R
    rw [if_pos (show nI 2 ≤ 2 by decide)]
    unfold f_X3_tryFrom_2_b10
    rw [e, bd3s]
    refine ⟨_, _, _, _, _, _, _, _, rfl, ?_, fun j _ => ⟨rfl, rfl, rfl, rfl⟩, fun j _ => rfl⟩
    rw [show 2 - 2 = 0 from rfl, LF_0]
    exact R'
  · have hND' : 2 < N := by omega
    obtain ⟨m, hm⟩ : ∃ m, N - 2 = m + 1 := ⟨N - 2 - 1, by omega⟩
    have hmE : N - 3 = m := by omega
    rw [if_neg (show ¬ nI N ≤ 2 from nI_ge (a := 2) (b := N) hND' (by omega)), hm]
    have loop : ∀ (m' a F : Nat) (few most : Int32) (wD wF : Nat → Int32) (wV : Nat → Nat → Int32) (askers : Nat → Int32) (wH : Nat → Nat → Int32) (best : Nat → Int32), a + m' = n + 1 → m' < F → WS n d H lk (wD 2) (wF 2) (wH 2) (wV 2) → (∀ j, j < 2 → askers j = wrI (askO (pre / (n + 1) ^ (2 - 1 - j) % (n + 1)))) → ACR (n + 1) N (LF kinds wn cd n q c lk (m + 1) d H (pre * (n + 1) ^ (m + 1)) acc ((n + 1) ^ m * a)) few most best → ∃ few' most' wD' wF' wV' askers' wH' best', f_X3_tryFrom_2_b32 (nI n) (nI q) (nI c) kinds colds warmths F (nI N) (nI a - 1) few most wD wF wV askers wH best = some (few', most', wD', wF', wV', askers', wH', best') ∧ ACR (n + 1) N (LF kinds wn cd n q c lk (m + 1) d H (pre * (n + 1) ^ (m + 1)) acc ((n + 1) ^ m * (n + 1))) few' most' best' ∧ (∀ j, j ≤ 2 → wD' j = wD j ∧ wF' j = wF j ∧ wV' j = wV j ∧ wH' j = wH j) ∧ (∀ j, j < 2 → askers' j = askers j) := by
      intro m'
      induction m' with
      | zero =>
        intro a F few most wD wF wV askers wH best hk hF W ha R
        obtain ⟨F, rfl⟩ : ∃ F', F = F' + 1 := ⟨F - 1, by omega⟩
        obtain rfl : a = n + 1 := by omega
        refine ⟨_, _, _, _, _, _, _, _, ?_, R, fun j _ => ⟨rfl, rfl, rfl, rfl⟩, fun j _ => rfl⟩
        show f_X3_tryFrom_2_s32 (nI n) (nI q) (nI c) kinds colds warmths (f_X3_tryFrom_2_b32 (nI n) (nI q) (nI c) kinds colds warmths F) (nI N) (nI (n + 1) - 1) few most wD wF wV askers wH best = _
        unfold f_X3_tryFrom_2_s32
        rw [nI_pred, if_pos (nI_le (Nat.le_refl _) (by omega))]
      | succ m' ih =>
        intro a F few most wD wF wV askers wH best hk hF W ha R
        obtain ⟨F, rfl⟩ : ∃ F', F = F' + 1 := ⟨F - 1, by omega⟩
        have haB : a < n + 1 := by omega
        obtain ⟨W1, W2, W3, W4⟩ := W
        show ∃ few' most' wD' wF' wV' askers' wH' best', f_X3_tryFrom_2_s32 (nI n) (nI q) (nI c) kinds colds warmths (f_X3_tryFrom_2_b32 (nI n) (nI q) (nI c) kinds colds warmths F) (nI N) (nI a - 1) few most wD wF wV askers wH best = some (few', most', wD', wF', wV', askers', wH', best') ∧ _
        have step : ∃ few' most' wD' wF' wV' askers' wH' best', f_X3_tryFrom_2_b61 (nI n) (nI q) (nI c) kinds colds warmths (f_X3_tryFrom_2_b32 (nI n) (nI q) (nI c) kinds colds warmths F) (nI N) (nI a - 1) few most wD wF wV askers wH best = some (few', most', wD', wF', wV', askers', wH', best') ∧ ACR (n + 1) N (LF kinds wn cd n q c lk (m + 1) d H (pre * (n + 1) ^ (m + 1)) acc ((n + 1) ^ m * (n + 1))) few' most' best' ∧ (∀ j, j ≤ 2 → wD' j = wD j ∧ wF' j = wF j ∧ wV' j = wV j ∧ wH' j = wH j) ∧ (∀ j, j < 2 → askers' j = askers j) := by
          obtain ⟨-, hq, hc, hw, hcd, hcs⟩ := CT
          obtain ⟨healths', p1, p2⟩ := p_passDay hn hq hc (show d < 1024 by omega) (askO_lt haB) (kinds := kinds) hw hcd hcs hH.1 hH.2 (w7 (g := wH 3) W3) (fun b hb => w7 (h := fset n lk) (g := wV 3) W4 b (by omega))
          unfold f_X3_tryFrom_2_b61 f_X7_copyFrom f_X3_tryFrom_2_b106
          rw [bd4s, va_up_self, va_up_self, va_up_self, va_up_self, W1, W2, askI a, p1, bd4s]
          have CT : CTX n q c wn cd kinds warmths colds := ⟨hn, hq, hc, hw, hcd, hcs⟩
          have hask : ∀ j, j < 3 → upd askers 2 (wrI (askO a)) j = wrI (askO ((pre * (n + 1) + a) / (n + 1) ^ (3 - 1 - j) % (n + 1))) := by
            intro j hj
            by_cases e : j = 2
            · subst e
              rw [pk_us, show 3 - 1 - 2 = 0 from rfl, Nat.pow_zero, Nat.div_one, Nat.mul_add_mod', Nat.mod_eq_of_lt haB]
            · rw [pk_un e, ha j (by omega), show 3 - 1 - j = (2 - 1 - j) + 1 by omega, pre_div haB]
          obtain ⟨few1, most1, wD1, wF1, wV1, askers1, wH1, best1, e4, R4, v1, v2⟩ := try_3 CT hN (lk := lk) (show 3 ≤ N by omega) (d := d + 1) (H := nextH kinds wn cd n q c d H lk (askO a)) (pre := pre * (n + 1) + a) (few := few) (most := most) (wD := va_up (va_up wD 3 (nI d)) 3 (nI (d + 1))) (wF := va_up (va_up wF 3 (nI (zset n H))) 3 (nI (zset n (nextH kinds wn cd n q c d H lk (askO a))))) (wV := va_up wV 3 (va_cpy (wV 2) (wV 3) 0 0 7)) (askers := upd askers 2 (wrI (askO a))) (wH := va_up (va_up wH 3 (va_cpy (wH 2) (wH 3) 0 0 7)) 3 healths') (best := best) (by omega) (HB_next hH (askO a)) (by rw [va_up_self, va_up_self, va_up_self, va_up_self]; exact ⟨rfl, rfl, p2, w7 (h := fset n lk) W4⟩) hask R
          rw [e4, bd8s, ← askI a, i_m1 a]
          rw [hmE] at R4
          have R5 : ACR (n + 1) N (LF kinds wn cd n q c lk (m + 1) d H (pre * (n + 1) ^ (m + 1)) acc ((n + 1) ^ m * (a + 1))) few1 most1 best1 := by
            show ACR (n + 1) N (linF (nxT kinds wn cd n q c lk) (n + 1) (fwT n) hsT (m + 1) d H (pre * (n + 1) ^ (m + 1)) acc ((n + 1) ^ m * (a + 1))) few1 most1 best1
            rw [lin_next (Nat.succ_pos n) haB]
            exact R4
          have u1 : ∀ j, j ≤ 2 → wD1 j = wD j ∧ wF1 j = wF j ∧ wV1 j = wV j ∧ wH1 j = wH j := fun j hj => by
            obtain ⟨y1, y2, y3, y4⟩ := v1 j (by omega)
            refine ⟨?_, ?_, ?_, ?_⟩
            · rw [y1, va_up_ne _ _ (by omega), va_up_ne _ _ (by omega)]
            · rw [y2, va_up_ne _ _ (by omega), va_up_ne _ _ (by omega)]
            · rw [y3, va_up_ne _ _ (by omega)]
            · rw [y4, va_up_ne _ _ (by omega), va_up_ne _ _ (by omega)]
          have u2 : ∀ j, j < 2 → askers1 j = askers j := fun j hj => by rw [v2 j (by omega), pk_un (by omega)]
          obtain ⟨g1, g2, g3, g4⟩ := u1 2 (Nat.le_refl _)
          obtain ⟨few', most', wD', wF', wV', askers', wH', best', e6, R6, x1, x2⟩ := ih (a + 1) F few1 most1 wD1 wF1 wV1 askers1 wH1 best1 (by omega) (by omega) (by rw [g1, g2, g3, g4]; exact ⟨W1, W2, W3, W4⟩) (fun j hj => by rw [u2 j hj]; exact ha j hj) R5
          refine ⟨few', most', wD', wF', wV', askers', wH', best', e6, R6, fun j hj => ?_, fun j hj => ?_⟩
          · obtain ⟨y1, y2, y3, y4⟩ := x1 j hj
            obtain ⟨o1, o2, o3, o4⟩ := u1 j hj
            exact ⟨y1.trans o1, y2.trans o2, y3.trans o3, y4.trans o4⟩
          · exact (x2 j hj).trans (u2 j hj)
        unfold f_X3_tryFrom_2_s32
        rw [if_neg (show ¬ nI n ≤ nI a - 1 from fun q => by
          have := Int32.le_iff_toInt_le.mp q
          have e1 : (nI a - 1).toInt = (a : Int) - 1 := pk_sub_toInt (a := a) (b := 1) (by omega) (by omega)
          rw [e1, nI_toI (by omega)] at this
          omega)]
        by_cases h0 : a = 0
        · subst h0
          rw [if_pos (show nI 0 - 1 = -1 by decide)]
          exact step
        · obtain ⟨f, rfl⟩ : ∃ f, a = f + 1 := ⟨a - 1, by omega⟩
          rw [if_neg (show ¬ nI (f + 1) - 1 = -1 by rw [nI_pred]; exact nI_ne_m1 (by omega)), nI_pred, W1, W2, p_carried7 hn (show f < n by omega) (show d < 1024 by omega) CT.2.1 (W4 f (by omega)), bs]
          rw [nI_pred] at step
          cases hwo : worn kinds q n d H lk f with
          | true =>
            rw [if_neg (show ¬ b2 true = 0 by decide)]
            exact step
          | false =>
            rw [if_pos (show b2 false = 0 from rfl)]
            unfold f_X3_tryFrom_2_b106
            have e1 : nI f + 1 = nI (f + 1 + 1) - 1 := by rw [nI_pred, nI_1]
            rw [e1]
            refine ih (f + 1 + 1) F few most wD wF wV askers wH best (by omega) (by omega) ⟨W1, W2, W3, W4⟩ ha ?_
            show ACR (n + 1) N (linF (nxT kinds wn cd n q c lk) (n + 1) (fwT n) hsT (m + 1) d H (pre * (n + 1) ^ (m + 1)) acc ((n + 1) ^ m * (f + 1 + 1))) few most best
            rw [lin_skip (Nat.succ_pos n) haB (Nat.succ_pos f) (nx_skip hwo)]
            exact R
    obtain ⟨few', most', wD', wF', wV', askers', wH', best', e, R', x1, x2⟩ := loop (n + 1) 0 5000 few most wD wF wV askers wH best (by omega) (by omega) W ha (by rw [Nat.mul_zero]; exact R)
    rw [← Nat.pow_succ] at R'
    exact ⟨few', most', wD', wF', wV', askers', wH', best', e, R', x1, x2⟩
theorem try_1 {n q c N : Nat} {wn cd : Nat → Nat} {kinds warmths colds : Nat → Int32} (CT : CTX n q c wn cd kinds warmths colds) (hN : N ≤ 4) {lk : Nat → Nat → Bool} (hD : 1 ≤ N) {d : Nat} {H : Nat → Nat} {pre : Nat} {acc : Nat × Nat × Nat} {few most : Int32} {wD wF askers best : Nat → Int32} {wV wH : Nat → Nat → Int32} (hd : d + 4 ≤ 1010 + 1) (hH : HB n H) (W : WS n d H lk (wD 1) (wF 1) (wH 1) (wV 1)) (ha : ∀ j, j < 1 → askers j = wrI (askO (pre / (n + 1) ^ (1 - 1 - j) % (n + 1)))) (R : ACR (n + 1) N acc few most best) : ∃ few' most' wD' wF' wV' askers' wH' best', f_X3_tryFrom_1 few most (nI n) (nI q) (nI c) wD wF wV kinds askers wH colds warmths best (nI N) = some (few', most', wD', wF', wV', askers', wH', best') ∧ ACR (n + 1) N (LF kinds wn cd n q c lk (N - 1) d H (pre * (n + 1) ^ (N - 1)) acc ((n + 1) ^ (N - 1))) few' most' best' ∧ (∀ j, j ≤ 1 → wD' j = wD j ∧ wF' j = wF j ∧ wV' j = wV j ∧ wH' j = wH j) ∧ (∀ j, j < 1 → askers' j = askers j) := by
  have hn := CT.1
  unfold f_X3_tryFrom_1
  by_cases hND : N = 1
  · subst hND
    obtain ⟨few', most', best', e, R'⟩ := p_compare (r := pre) CT.1 hN hH W.2.1 W.2.2.1 ha R
    rw [if_pos (show nI 1 ≤ 1 by decide)]
    unfold f_X3_tryFrom_1_b10
    rw [e, bd3s]
    refine ⟨_, _, _, _, _, _, _, _, rfl, ?_, fun j _ => ⟨rfl, rfl, rfl, rfl⟩, fun j _ => rfl⟩
    rw [show 1 - 1 = 0 from rfl, LF_0]
    exact R'
  · have hND' : 1 < N := by omega
    obtain ⟨m, hm⟩ : ∃ m, N - 1 = m + 1 := ⟨N - 1 - 1, by omega⟩
    have hmE : N - 2 = m := by omega
    rw [if_neg (show ¬ nI N ≤ 1 from nI_ge (a := 1) (b := N) hND' (by omega)), hm]
    have loop : ∀ (m' a F : Nat) (few most : Int32) (wD wF : Nat → Int32) (wV : Nat → Nat → Int32) (askers : Nat → Int32) (wH : Nat → Nat → Int32) (best : Nat → Int32), a + m' = n + 1 → m' < F → WS n d H lk (wD 1) (wF 1) (wH 1) (wV 1) → (∀ j, j < 1 → askers j = wrI (askO (pre / (n + 1) ^ (1 - 1 - j) % (n + 1)))) → ACR (n + 1) N (LF kinds wn cd n q c lk (m + 1) d H (pre * (n + 1) ^ (m + 1)) acc ((n + 1) ^ m * a)) few most best → ∃ few' most' wD' wF' wV' askers' wH' best', f_X3_tryFrom_1_b32 (nI n) (nI q) (nI c) kinds colds warmths F (nI N) (nI a - 1) few most wD wF wV askers wH best = some (few', most', wD', wF', wV', askers', wH', best') ∧ ACR (n + 1) N (LF kinds wn cd n q c lk (m + 1) d H (pre * (n + 1) ^ (m + 1)) acc ((n + 1) ^ m * (n + 1))) few' most' best' ∧ (∀ j, j ≤ 1 → wD' j = wD j ∧ wF' j = wF j ∧ wV' j = wV j ∧ wH' j = wH j) ∧ (∀ j, j < 1 → askers' j = askers j) := by
      intro m'
      induction m' with
      | zero =>
        intro a F few most wD wF wV askers wH best hk hF W ha R
        obtain ⟨F, rfl⟩ : ∃ F', F = F' + 1 := ⟨F - 1, by omega⟩
        obtain rfl : a = n + 1 := by omega
        refine ⟨_, _, _, _, _, _, _, _, ?_, R, fun j _ => ⟨rfl, rfl, rfl, rfl⟩, fun j _ => rfl⟩
        show f_X3_tryFrom_1_s32 (nI n) (nI q) (nI c) kinds colds warmths (f_X3_tryFrom_1_b32 (nI n) (nI q) (nI c) kinds colds warmths F) (nI N) (nI (n + 1) - 1) few most wD wF wV askers wH best = _
        unfold f_X3_tryFrom_1_s32
        rw [nI_pred, if_pos (nI_le (Nat.le_refl _) (by omega))]
      | succ m' ih =>
        intro a F few most wD wF wV askers wH best hk hF W ha R
        obtain ⟨F, rfl⟩ : ∃ F', F = F' + 1 := ⟨F - 1, by omega⟩
        have haB : a < n + 1 := by omega
        obtain ⟨W1, W2, W3, W4⟩ := W
        show ∃ few' most' wD' wF' wV' askers' wH' best', f_X3_tryFrom_1_s32 (nI n) (nI q) (nI c) kinds colds warmths (f_X3_tryFrom_1_b32 (nI n) (nI q) (nI c) kinds colds warmths F) (nI N) (nI a - 1) few most wD wF wV askers wH best = some (few', most', wD', wF', wV', askers', wH', best') ∧ _
        have step : ∃ few' most' wD' wF' wV' askers' wH' best', f_X3_tryFrom_1_b61 (nI n) (nI q) (nI c) kinds colds warmths (f_X3_tryFrom_1_b32 (nI n) (nI q) (nI c) kinds colds warmths F) (nI N) (nI a - 1) few most wD wF wV askers wH best = some (few', most', wD', wF', wV', askers', wH', best') ∧ ACR (n + 1) N (LF kinds wn cd n q c lk (m + 1) d H (pre * (n + 1) ^ (m + 1)) acc ((n + 1) ^ m * (n + 1))) few' most' best' ∧ (∀ j, j ≤ 1 → wD' j = wD j ∧ wF' j = wF j ∧ wV' j = wV j ∧ wH' j = wH j) ∧ (∀ j, j < 1 → askers' j = askers j) := by
          obtain ⟨-, hq, hc, hw, hcd, hcs⟩ := CT
          obtain ⟨healths', p1, p2⟩ := p_passDay hn hq hc (show d < 1024 by omega) (askO_lt haB) (kinds := kinds) hw hcd hcs hH.1 hH.2 (w7 (g := wH 2) W3) (fun b hb => w7 (h := fset n lk) (g := wV 2) W4 b (by omega))
          unfold f_X3_tryFrom_1_b61 f_X7_copyFrom f_X3_tryFrom_1_b106
          rw [bd4s, va_up_self, va_up_self, va_up_self, va_up_self, W1, W2, askI a, p1, bd4s]
          have CT : CTX n q c wn cd kinds warmths colds := ⟨hn, hq, hc, hw, hcd, hcs⟩
          have hask : ∀ j, j < 2 → upd askers 1 (wrI (askO a)) j = wrI (askO ((pre * (n + 1) + a) / (n + 1) ^ (2 - 1 - j) % (n + 1))) := by
            intro j hj
            by_cases e : j = 1
            · subst e
              rw [pk_us, show 2 - 1 - 1 = 0 from rfl, Nat.pow_zero, Nat.div_one, Nat.mul_add_mod', Nat.mod_eq_of_lt haB]
            · rw [pk_un e, ha j (by omega), show 2 - 1 - j = (1 - 1 - j) + 1 by omega, pre_div haB]
          obtain ⟨few1, most1, wD1, wF1, wV1, askers1, wH1, best1, e4, R4, v1, v2⟩ := try_2 CT hN (lk := lk) (show 2 ≤ N by omega) (d := d + 1) (H := nextH kinds wn cd n q c d H lk (askO a)) (pre := pre * (n + 1) + a) (few := few) (most := most) (wD := va_up (va_up wD 2 (nI d)) 2 (nI (d + 1))) (wF := va_up (va_up wF 2 (nI (zset n H))) 2 (nI (zset n (nextH kinds wn cd n q c d H lk (askO a))))) (wV := va_up wV 2 (va_cpy (wV 1) (wV 2) 0 0 7)) (askers := upd askers 1 (wrI (askO a))) (wH := va_up (va_up wH 2 (va_cpy (wH 1) (wH 2) 0 0 7)) 2 healths') (best := best) (by omega) (HB_next hH (askO a)) (by rw [va_up_self, va_up_self, va_up_self, va_up_self]; exact ⟨rfl, rfl, p2, w7 (h := fset n lk) W4⟩) hask R
          rw [e4, bd8s, ← askI a, i_m1 a]
          rw [hmE] at R4
          have R5 : ACR (n + 1) N (LF kinds wn cd n q c lk (m + 1) d H (pre * (n + 1) ^ (m + 1)) acc ((n + 1) ^ m * (a + 1))) few1 most1 best1 := by
            show ACR (n + 1) N (linF (nxT kinds wn cd n q c lk) (n + 1) (fwT n) hsT (m + 1) d H (pre * (n + 1) ^ (m + 1)) acc ((n + 1) ^ m * (a + 1))) few1 most1 best1
            rw [lin_next (Nat.succ_pos n) haB]
            exact R4
          have u1 : ∀ j, j ≤ 1 → wD1 j = wD j ∧ wF1 j = wF j ∧ wV1 j = wV j ∧ wH1 j = wH j := fun j hj => by
            obtain ⟨y1, y2, y3, y4⟩ := v1 j (by omega)
            refine ⟨?_, ?_, ?_, ?_⟩
            · rw [y1, va_up_ne _ _ (by omega), va_up_ne _ _ (by omega)]
            · rw [y2, va_up_ne _ _ (by omega), va_up_ne _ _ (by omega)]
            · rw [y3, va_up_ne _ _ (by omega)]
            · rw [y4, va_up_ne _ _ (by omega), va_up_ne _ _ (by omega)]
          have u2 : ∀ j, j < 1 → askers1 j = askers j := fun j hj => by rw [v2 j (by omega), pk_un (by omega)]
          obtain ⟨g1, g2, g3, g4⟩ := u1 1 (Nat.le_refl _)
          obtain ⟨few', most', wD', wF', wV', askers', wH', best', e6, R6, x1, x2⟩ := ih (a + 1) F few1 most1 wD1 wF1 wV1 askers1 wH1 best1 (by omega) (by omega) (by rw [g1, g2, g3, g4]; exact ⟨W1, W2, W3, W4⟩) (fun j hj => by rw [u2 j hj]; exact ha j hj) R5
          refine ⟨few', most', wD', wF', wV', askers', wH', best', e6, R6, fun j hj => ?_, fun j hj => ?_⟩
          · obtain ⟨y1, y2, y3, y4⟩ := x1 j hj
            obtain ⟨o1, o2, o3, o4⟩ := u1 j hj
            exact ⟨y1.trans o1, y2.trans o2, y3.trans o3, y4.trans o4⟩
          · exact (x2 j hj).trans (u2 j hj)
        unfold f_X3_tryFrom_1_s32
        rw [if_neg (show ¬ nI n ≤ nI a - 1 from fun q => by
          have := Int32.le_iff_toInt_le.mp q
          have e1 : (nI a - 1).toInt = (a : Int) - 1 := pk_sub_toInt (a := a) (b := 1) (by omega) (by omega)
          rw [e1, nI_toI (by omega)] at this
          omega)]
        by_cases h0 : a = 0
        · subst h0
          rw [if_pos (show nI 0 - 1 = -1 by decide)]
          exact step
        · obtain ⟨f, rfl⟩ : ∃ f, a = f + 1 := ⟨a - 1, by omega⟩
          rw [if_neg (show ¬ nI (f + 1) - 1 = -1 by rw [nI_pred]; exact nI_ne_m1 (by omega)), nI_pred, W1, W2, p_carried7 hn (show f < n by omega) (show d < 1024 by omega) CT.2.1 (W4 f (by omega)), bs]
          rw [nI_pred] at step
          cases hwo : worn kinds q n d H lk f with
          | true =>
            rw [if_neg (show ¬ b2 true = 0 by decide)]
            exact step
          | false =>
            rw [if_pos (show b2 false = 0 from rfl)]
            unfold f_X3_tryFrom_1_b106
            have e1 : nI f + 1 = nI (f + 1 + 1) - 1 := by rw [nI_pred, nI_1]
            rw [e1]
            refine ih (f + 1 + 1) F few most wD wF wV askers wH best (by omega) (by omega) ⟨W1, W2, W3, W4⟩ ha ?_
            show ACR (n + 1) N (linF (nxT kinds wn cd n q c lk) (n + 1) (fwT n) hsT (m + 1) d H (pre * (n + 1) ^ (m + 1)) acc ((n + 1) ^ m * (f + 1 + 1))) few most best
            rw [lin_skip (Nat.succ_pos n) haB (Nat.succ_pos f) (nx_skip hwo)]
            exact R
    obtain ⟨few', most', wD', wF', wV', askers', wH', best', e, R', x1, x2⟩ := loop (n + 1) 0 5000 few most wD wF wV askers wH best (by omega) (by omega) W ha (by rw [Nat.mul_zero]; exact R)
    rw [← Nat.pow_succ] at R'
    exact ⟨few', most', wD', wF', wV', askers', wH', best', e, R', x1, x2⟩
theorem try_0 {n q c N : Nat} {wn cd : Nat → Nat} {kinds warmths colds : Nat → Int32} (CT : CTX n q c wn cd kinds warmths colds) (hN : N ≤ 4) {lk : Nat → Nat → Bool} (hD : 0 ≤ N) {d : Nat} {H : Nat → Nat} {pre : Nat} {acc : Nat × Nat × Nat} {few most : Int32} {wD wF askers best : Nat → Int32} {wV wH : Nat → Nat → Int32} (hd : d + 4 ≤ 1010 + 0) (hH : HB n H) (W : WS n d H lk (wD 0) (wF 0) (wH 0) (wV 0)) (ha : ∀ j, j < 0 → askers j = wrI (askO (pre / (n + 1) ^ (0 - 1 - j) % (n + 1)))) (R : ACR (n + 1) N acc few most best) : ∃ few' most' wD' wF' wV' askers' wH' best', f_X3_tryFrom_0 few most (nI n) (nI q) (nI c) wD wF wV kinds askers wH colds warmths best (nI N) = some (few', most', wD', wF', wV', askers', wH', best') ∧ ACR (n + 1) N (LF kinds wn cd n q c lk (N - 0) d H (pre * (n + 1) ^ (N - 0)) acc ((n + 1) ^ (N - 0))) few' most' best' ∧ (∀ j, j ≤ 0 → wD' j = wD j ∧ wF' j = wF j ∧ wV' j = wV j ∧ wH' j = wH j) ∧ (∀ j, j < 0 → askers' j = askers j) := by
  have hn := CT.1
  unfold f_X3_tryFrom_0
  by_cases hND : N = 0
  · subst hND
    obtain ⟨few', most', best', e, R'⟩ := p_compare (r := pre) CT.1 hN hH W.2.1 W.2.2.1 ha R
    rw [if_pos (show nI 0 ≤ 0 by decide)]
    unfold f_X3_tryFrom_0_b10
    rw [e, bd3s]
    refine ⟨_, _, _, _, _, _, _, _, rfl, ?_, fun j _ => ⟨rfl, rfl, rfl, rfl⟩, fun j _ => rfl⟩
    rw [show 0 - 0 = 0 from rfl, LF_0]
    exact R'
  · have hND' : 0 < N := by omega
    obtain ⟨m, hm⟩ : ∃ m, N - 0 = m + 1 := ⟨N - 0 - 1, by omega⟩
    have hmE : N - 1 = m := by omega
    rw [if_neg (show ¬ nI N ≤ 0 from nI_ge (a := 0) (b := N) hND' (by omega)), hm]
    have loop : ∀ (m' a F : Nat) (few most : Int32) (wD wF : Nat → Int32) (wV : Nat → Nat → Int32) (askers : Nat → Int32) (wH : Nat → Nat → Int32) (best : Nat → Int32), a + m' = n + 1 → m' < F → WS n d H lk (wD 0) (wF 0) (wH 0) (wV 0) → (∀ j, j < 0 → askers j = wrI (askO (pre / (n + 1) ^ (0 - 1 - j) % (n + 1)))) → ACR (n + 1) N (LF kinds wn cd n q c lk (m + 1) d H (pre * (n + 1) ^ (m + 1)) acc ((n + 1) ^ m * a)) few most best → ∃ few' most' wD' wF' wV' askers' wH' best', f_X3_tryFrom_0_b32 (nI n) (nI q) (nI c) kinds colds warmths F (nI N) (nI a - 1) few most wD wF wV askers wH best = some (few', most', wD', wF', wV', askers', wH', best') ∧ ACR (n + 1) N (LF kinds wn cd n q c lk (m + 1) d H (pre * (n + 1) ^ (m + 1)) acc ((n + 1) ^ m * (n + 1))) few' most' best' ∧ (∀ j, j ≤ 0 → wD' j = wD j ∧ wF' j = wF j ∧ wV' j = wV j ∧ wH' j = wH j) ∧ (∀ j, j < 0 → askers' j = askers j) := by
      intro m'
      induction m' with
      | zero =>
        intro a F few most wD wF wV askers wH best hk hF W ha R
        obtain ⟨F, rfl⟩ : ∃ F', F = F' + 1 := ⟨F - 1, by omega⟩
        obtain rfl : a = n + 1 := by omega
        refine ⟨_, _, _, _, _, _, _, _, ?_, R, fun j _ => ⟨rfl, rfl, rfl, rfl⟩, fun j _ => rfl⟩
        show f_X3_tryFrom_0_s32 (nI n) (nI q) (nI c) kinds colds warmths (f_X3_tryFrom_0_b32 (nI n) (nI q) (nI c) kinds colds warmths F) (nI N) (nI (n + 1) - 1) few most wD wF wV askers wH best = _
        unfold f_X3_tryFrom_0_s32
        rw [nI_pred, if_pos (nI_le (Nat.le_refl _) (by omega))]
      | succ m' ih =>
        intro a F few most wD wF wV askers wH best hk hF W ha R
        obtain ⟨F, rfl⟩ : ∃ F', F = F' + 1 := ⟨F - 1, by omega⟩
        have haB : a < n + 1 := by omega
        obtain ⟨W1, W2, W3, W4⟩ := W
        show ∃ few' most' wD' wF' wV' askers' wH' best', f_X3_tryFrom_0_s32 (nI n) (nI q) (nI c) kinds colds warmths (f_X3_tryFrom_0_b32 (nI n) (nI q) (nI c) kinds colds warmths F) (nI N) (nI a - 1) few most wD wF wV askers wH best = some (few', most', wD', wF', wV', askers', wH', best') ∧ _
        have step : ∃ few' most' wD' wF' wV' askers' wH' best', f_X3_tryFrom_0_b61 (nI n) (nI q) (nI c) kinds colds warmths (f_X3_tryFrom_0_b32 (nI n) (nI q) (nI c) kinds colds warmths F) (nI N) (nI a - 1) few most wD wF wV askers wH best = some (few', most', wD', wF', wV', askers', wH', best') ∧ ACR (n + 1) N (LF kinds wn cd n q c lk (m + 1) d H (pre * (n + 1) ^ (m + 1)) acc ((n + 1) ^ m * (n + 1))) few' most' best' ∧ (∀ j, j ≤ 0 → wD' j = wD j ∧ wF' j = wF j ∧ wV' j = wV j ∧ wH' j = wH j) ∧ (∀ j, j < 0 → askers' j = askers j) := by
          obtain ⟨-, hq, hc, hw, hcd, hcs⟩ := CT
          obtain ⟨healths', p1, p2⟩ := p_passDay hn hq hc (show d < 1024 by omega) (askO_lt haB) (kinds := kinds) hw hcd hcs hH.1 hH.2 (w7 (g := wH 1) W3) (fun b hb => w7 (h := fset n lk) (g := wV 1) W4 b (by omega))
          unfold f_X3_tryFrom_0_b61 f_X7_copyFrom f_X3_tryFrom_0_b106
          rw [bd4s, va_up_self, va_up_self, va_up_self, va_up_self, W1, W2, askI a, p1, bd4s]
          have CT : CTX n q c wn cd kinds warmths colds := ⟨hn, hq, hc, hw, hcd, hcs⟩
          have hask : ∀ j, j < 1 → upd askers 0 (wrI (askO a)) j = wrI (askO ((pre * (n + 1) + a) / (n + 1) ^ (1 - 1 - j) % (n + 1))) := by
            intro j hj
            by_cases e : j = 0
            · subst e
              rw [pk_us, show 1 - 1 - 0 = 0 from rfl, Nat.pow_zero, Nat.div_one, Nat.mul_add_mod', Nat.mod_eq_of_lt haB]
            · exact absurd hj (by omega)
          obtain ⟨few1, most1, wD1, wF1, wV1, askers1, wH1, best1, e4, R4, v1, v2⟩ := try_1 CT hN (lk := lk) (show 1 ≤ N by omega) (d := d + 1) (H := nextH kinds wn cd n q c d H lk (askO a)) (pre := pre * (n + 1) + a) (few := few) (most := most) (wD := va_up (va_up wD 1 (nI d)) 1 (nI (d + 1))) (wF := va_up (va_up wF 1 (nI (zset n H))) 1 (nI (zset n (nextH kinds wn cd n q c d H lk (askO a))))) (wV := va_up wV 1 (va_cpy (wV 0) (wV 1) 0 0 7)) (askers := upd askers 0 (wrI (askO a))) (wH := va_up (va_up wH 1 (va_cpy (wH 0) (wH 1) 0 0 7)) 1 healths') (best := best) (by omega) (HB_next hH (askO a)) (by rw [va_up_self, va_up_self, va_up_self, va_up_self]; exact ⟨rfl, rfl, p2, w7 (h := fset n lk) W4⟩) hask R
          rw [e4, bd8s, ← askI a, i_m1 a]
          rw [hmE] at R4
          have R5 : ACR (n + 1) N (LF kinds wn cd n q c lk (m + 1) d H (pre * (n + 1) ^ (m + 1)) acc ((n + 1) ^ m * (a + 1))) few1 most1 best1 := by
            show ACR (n + 1) N (linF (nxT kinds wn cd n q c lk) (n + 1) (fwT n) hsT (m + 1) d H (pre * (n + 1) ^ (m + 1)) acc ((n + 1) ^ m * (a + 1))) few1 most1 best1
            rw [lin_next (Nat.succ_pos n) haB]
            exact R4
          have u1 : ∀ j, j ≤ 0 → wD1 j = wD j ∧ wF1 j = wF j ∧ wV1 j = wV j ∧ wH1 j = wH j := fun j hj => by
            obtain ⟨y1, y2, y3, y4⟩ := v1 j (by omega)
            refine ⟨?_, ?_, ?_, ?_⟩
            · rw [y1, va_up_ne _ _ (by omega), va_up_ne _ _ (by omega)]
            · rw [y2, va_up_ne _ _ (by omega), va_up_ne _ _ (by omega)]
            · rw [y3, va_up_ne _ _ (by omega)]
            · rw [y4, va_up_ne _ _ (by omega), va_up_ne _ _ (by omega)]
          have u2 : ∀ j, j < 0 → askers1 j = askers j := fun j hj => by rw [v2 j (by omega), pk_un (by omega)]
          obtain ⟨g1, g2, g3, g4⟩ := u1 0 (Nat.le_refl _)
          obtain ⟨few', most', wD', wF', wV', askers', wH', best', e6, R6, x1, x2⟩ := ih (a + 1) F few1 most1 wD1 wF1 wV1 askers1 wH1 best1 (by omega) (by omega) (by rw [g1, g2, g3, g4]; exact ⟨W1, W2, W3, W4⟩) (fun j hj => by rw [u2 j hj]; exact ha j hj) R5
          refine ⟨few', most', wD', wF', wV', askers', wH', best', e6, R6, fun j hj => ?_, fun j hj => ?_⟩
          · obtain ⟨y1, y2, y3, y4⟩ := x1 j hj
            obtain ⟨o1, o2, o3, o4⟩ := u1 j hj
            exact ⟨y1.trans o1, y2.trans o2, y3.trans o3, y4.trans o4⟩
          · exact (x2 j hj).trans (u2 j hj)
        unfold f_X3_tryFrom_0_s32
        rw [if_neg (show ¬ nI n ≤ nI a - 1 from fun q => by
          have := Int32.le_iff_toInt_le.mp q
          have e1 : (nI a - 1).toInt = (a : Int) - 1 := pk_sub_toInt (a := a) (b := 1) (by omega) (by omega)
          rw [e1, nI_toI (by omega)] at this
          omega)]
        by_cases h0 : a = 0
        · subst h0
          rw [if_pos (show nI 0 - 1 = -1 by decide)]
          exact step
        · obtain ⟨f, rfl⟩ : ∃ f, a = f + 1 := ⟨a - 1, by omega⟩
          rw [if_neg (show ¬ nI (f + 1) - 1 = -1 by rw [nI_pred]; exact nI_ne_m1 (by omega)), nI_pred, W1, W2, p_carried7 hn (show f < n by omega) (show d < 1024 by omega) CT.2.1 (W4 f (by omega)), bs]
          rw [nI_pred] at step
          cases hwo : worn kinds q n d H lk f with
          | true =>
            rw [if_neg (show ¬ b2 true = 0 by decide)]
            exact step
          | false =>
            rw [if_pos (show b2 false = 0 from rfl)]
            unfold f_X3_tryFrom_0_b106
            have e1 : nI f + 1 = nI (f + 1 + 1) - 1 := by rw [nI_pred, nI_1]
            rw [e1]
            refine ih (f + 1 + 1) F few most wD wF wV askers wH best (by omega) (by omega) ⟨W1, W2, W3, W4⟩ ha ?_
            show ACR (n + 1) N (linF (nxT kinds wn cd n q c lk) (n + 1) (fwT n) hsT (m + 1) d H (pre * (n + 1) ^ (m + 1)) acc ((n + 1) ^ m * (f + 1 + 1))) few most best
            rw [lin_skip (Nat.succ_pos n) haB (Nat.succ_pos f) (nx_skip hwo)]
            exact R
    obtain ⟨few', most', wD', wF', wV', askers', wH', best', e, R', x1, x2⟩ := loop (n + 1) 0 5000 few most wD wF wV askers wH best (by omega) (by omega) W ha (by rw [Nat.mul_zero]; exact R)
    rw [← Nat.pow_succ] at R'
    exact ⟨few', most', wD', wF', wV', askers', wH', best', e, R', x1, x2⟩
