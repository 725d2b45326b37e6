theorem pow_b {n N : Nat} (hn : n ≤ 7) (hN : N ≤ 4) : 0 < (n + 1) ^ N ∧ (n + 1) ^ N ≤ 4096 := by
  refine ⟨Nat.pow_pos (Nat.succ_pos n), ?_⟩
  have h1 : (n + 1) ^ N ≤ 8 ^ N := Nat.pow_le_pow_left (by omega) N
  have h2 : 8 ^ N ≤ 8 ^ 4 := Nat.pow_le_pow_right (by decide) hN
  exact Nat.le_trans h1 (Nat.le_trans h2 (by decide))
def RS (n d : Nat) (H : Nat → Nat) (lk : Nat → Nat → Bool) (st : Nat → Int32) : Prop := st 14 = nI d ∧ (∀ k, k < 7 → st k = nI (H k)) ∧ (∀ a, a < 7 → st (7 + a) = nI (lset n lk a))
theorem RS_same {n d : Nat} {H : Nat → Nat} {lk : Nat → Nat → Bool} {st st' : Nat → Int32} (R : RS n d H lk st) (e : ∀ j, j < 15 → st' j = st j) : RS n d H lk st' := ⟨by rw [e 14 (by omega)]; exact R.1, fun k hk => by rw [e k (by omega)]; exact R.2.1 k hk, fun a ha => by rw [e (7 + a) (by omega)]; exact R.2.2 a ha⟩
def CTR (n q c : Nat) (wn cd : Nat → Nat) (kinds told : Nat → Int32) : Prop := n ≤ 7 ∧ c ≤ 6 ∧ told 0 = nI n ∧ told 1 = nI q ∧ told 2 = nI c ∧ (∀ f, f < 7 → told (3 + f) = kinds f) ∧ (∀ k, k < n → told (10 + k) = nI (wn k) ∧ wn k ≤ 9) ∧ (∀ j, cd j ≤ 40) ∧ (∀ j, j < c → told (31 + j) = nI (cd j))
theorem nz_in {α : Type} {y : Int32} {k : Option α} (h : ¬ y = 0) : nz_ y k = k := if_neg h
theorem pow_div {B m : Nat} (hB : 0 < B) : B ^ (m + 1) / B = B ^ m := by rw [Nat.pow_succ, Nat.mul_div_cancel _ hB]
theorem p_t106 {n q c N r : Nat} {wn cd : Nat → Nat} {kinds told : Nat → Int32} (CT : CTR n q c wn cd kinds told) (hN : N ≤ 4) (hr : r < (n + 1) ^ N) {lk : Nat → Nat → Bool} (K : Int32 → Int32 → Int32 → Int32 → Int32 → Int32 → Int32 → (Nat → Int32) → (Nat → Int32) → Option (Int32 × (Nat → Int32) × (Nat → Int32))) (x2 x3 : Int32) (aside : Nat → Int32) (acc : Nat × Nat × Nat) (ha1 : acc.1 ≤ 8) (ha2 : acc.2.1 ≤ 140) : ∀ (m k F d : Nat) (H : Nat → Nat) (st : Nat → Int32), k + m = N → m < F → d + m ≤ 1020 → HB n H → RS n d H lk st → ∃ st', f_X9_turns_b106 told K F (nI N) x2 x3 (nI acc.1) (nI acc.2.1) (nI acc.2.2) (nI r) (nI ((n + 1) ^ m)) (nI k) st aside = f_X9_turns_b200 told K (nI N) x2 x3 (nI (updA acc (fwT n (simT (nxT kinds wn cd n q c lk) (n + 1) m d H r)) (hsT (simT (nxT kinds wn cd n q c lk) (n + 1) m d H r)) r).1) (nI (updA acc (fwT n (simT (nxT kinds wn cd n q c lk) (n + 1) m d H r)) (hsT (simT (nxT kinds wn cd n q c lk) (n + 1) m d H r)) r).2.1) (nI (updA acc (fwT n (simT (nxT kinds wn cd n q c lk) (n + 1) m d H r)) (hsT (simT (nxT kinds wn cd n q c lk) (n + 1) m d H r)) r).2.2) (nI r) st' aside := by
  obtain ⟨hn, hc, t0, t1, t2, tk, hw, hcd, hcs⟩ := CT
  obtain ⟨pN0, pN⟩ := pow_b hn hN
  intro m
  induction m with
  | zero =>
    intro k F d H st hk hF hd hH R
    obtain ⟨F, rfl⟩ : ∃ F', F = F' + 1 := ⟨F - 1, by omega⟩
    refine ⟨st, ?_⟩
    show f_X9_turns_s106 told K (f_X9_turns_b106 told K F) (nI N) x2 x3 (nI acc.1) (nI acc.2.1) (nI acc.2.2) (nI r) (nI ((n + 1) ^ 0)) (nI k) st aside = _
    have hzl : zset n H < 128 := setOf_lt7 _ hn
    have hf := fwT_le hn H
    have hs := hsT_le hH.1
    unfold f_X9_turns_s106 f_X9_turns_b188
    rw [if_pos (nI_le (show N ≤ k by omega) (by omega)), p_frozen hn t0 R.2.1 hH.1, bs, p_ones _ hzl, bs, p_hoa9 hn t0 R.2.1 hH.2, bs]
    show (if nI (fwT n H) < nI acc.1 then f_X9_turns_b200 told K (nI N) x2 x3 (nI (fwT n H)) (nI (hsT H)) (nI r) (nI r) st aside else if nI (fwT n H) = nI acc.1 then if nI (hsT H) ≤ nI acc.2.1 then f_X9_turns_b200 told K (nI N) x2 x3 (nI acc.1) (nI acc.2.1) (nI acc.2.2) (nI r) st aside else f_X9_turns_b200 told K (nI N) x2 x3 (nI (fwT n H)) (nI (hsT H)) (nI r) (nI r) st aside else f_X9_turns_b200 told K (nI N) x2 x3 (nI acc.1) (nI acc.2.1) (nI acc.2.2) (nI r) st aside) = _
    rw [simT]
    unfold updA
    by_cases h1 : fwT n H < acc.1
    · rw [if_pos (nI_lt h1 (by omega)), if_pos (Or.inl h1)]
    · rw [if_neg (nI_nlt (by omega) (by omega))]
      by_cases h2 : fwT n H = acc.1
      · rw [if_pos (by rw [h2])]
        by_cases h3 : hsT H ≤ acc.2.1
        · rw [if_pos (nI_le h3 (by omega)), if_neg (by omega)]
        · rw [if_neg (nI_ge (by omega) (by omega)), if_pos (Or.inr ⟨h2, by omega⟩)]
      · rw [if_neg (fun q => h2 ((nI_eq (by omega) (by omega)).mp q)), if_neg (by omega)]
  | succ m ih =>
    intro k F d H st hk hF hd hH R
    obtain ⟨F, rfl⟩ : ∃ F', F = F' + 1 := ⟨F - 1, by omega⟩
    obtain ⟨pm0, pm⟩ := pow_b hn (show m ≤ 4 by omega)
    obtain ⟨-, pm1⟩ := pow_b hn (show m + 1 ≤ 4 by omega)
    have hdig : r / (n + 1) ^ m % (n + 1) < n + 1 := Nat.mod_lt _ (Nat.succ_pos n)
    have hrd : r / (n + 1) ^ m ≤ r := Nat.div_le_self _ _
    obtain ⟨st1, o1, o2, o3, o4⟩ := p_oneDay (q := q) hn hc (show d < 1024 by omega) (askO_lt hdig) t0 t1 t2 R.1 tk hw hcd hcs hH.1 hH.2 R.2.1 (fun b hb => R.2.2 b (by omega))
    obtain ⟨st', e⟩ := ih (k + 1) F (d + 1) (nxT kinds wn cd n q c lk d H (askO (r / (n + 1) ^ m % (n + 1)))) st1 (by omega) (by omega) (by omega) (HB_next hH _) ⟨o4, o2, fun b hb => by rw [o3 (7 + b) (by omega) (by omega)]; exact R.2.2 b hb⟩
    refine ⟨st', ?_⟩
    show f_X9_turns_s106 told K (f_X9_turns_b106 told K F) (nI N) x2 x3 (nI acc.1) (nI acc.2.1) (nI acc.2.2) (nI r) (nI ((n + 1) ^ (m + 1))) (nI k) st aside = _
    unfold f_X9_turns_s106
    have eB : told 0 + 1 = nI (n + 1) := by rw [t0, nI_1]
    have e1 : nI ((n + 1) ^ (m + 1)) / nI (n + 1) = nI ((n + 1) ^ m) := by rw [pk_div (by omega) (by omega) (by omega), pow_div (Nat.succ_pos n)]
    rw [if_neg (nI_ge (show k < N by omega) (by omega)), eB, e1, nz_in (nI_ne0 (by omega) (by omega)), nz_in (nI_ne0 (by omega) (by omega)), nz_in (nI_ne0 (by omega) (by omega)), pk_div (by omega) (by omega) (by omega), pk_rem (by omega) (by omega) (by omega), askI, o1, bd2s, nI_1]
    exact e
theorem p_t203 (told : Nat → Int32) (K : Int32 → Int32 → Int32 → Int32 → Int32 → Int32 → Int32 → (Nat → Int32) → (Nat → Int32) → Option (Int32 × (Nat → Int32) × (Nat → Int32))) (x1 x2 x3 x4 x5 x6 x7 : Int32) (aside : Nat → Int32) : ∀ (m k F : Nat) (st : Nat → Int32), k + m = 15 → m < F → ∃ st', f_X9_turns_b203 told K F x1 x2 x3 x4 x5 x6 x7 (nI k) st aside = K x1 x2 x3 x4 x5 x6 (x7 + 1) st' aside ∧ ∀ j, st' j = if k ≤ j ∧ j < 15 then aside j else st j := by
  intro m
  induction m with
  | zero =>
    intro k F st hk hF
    obtain ⟨F, rfl⟩ : ∃ F', F = F' + 1 := ⟨F - 1, by omega⟩
    refine ⟨st, ?_, fun j => by rw [if_neg (by omega)]⟩
    show f_X9_turns_s203 told K (f_X9_turns_b203 told K F) x1 x2 x3 x4 x5 x6 x7 (nI k) st aside = _
    unfold f_X9_turns_s203
    rw [if_pos (show (15 : Int32) ≤ nI k from nI_le (a := 15) (b := k) (by omega) (by omega))]
  | succ m ih =>
    intro k F st hk hF
    obtain ⟨F, rfl⟩ : ∃ F', F = F' + 1 := ⟨F - 1, by omega⟩
    obtain ⟨st', e1, e2⟩ := ih (k + 1) F (upd st k (aside k)) (by omega) (by omega)
    refine ⟨st', ?_, fun j => ?_⟩
    · show f_X9_turns_s203 told K (f_X9_turns_b203 told K F) x1 x2 x3 x4 x5 x6 x7 (nI k) st aside = _
      unfold f_X9_turns_s203
      rw [if_neg (show ¬ (15 : Int32) ≤ nI k from nI_ge (a := k) (b := 15) (by omega) (by omega)), gd_nI (by omega) (by omega), gd_nI (by omega) (by omega), cl (by omega), nI_1]
      exact e1
    · rw [e2 j]
      by_cases hj : j = k
      · subst hj
        rw [if_neg (by omega), if_pos (by omega), pk_us]
      · rw [pk_un hj]
        by_cases q : k + 1 ≤ j ∧ j < 15
        · rw [if_pos q, if_pos (by omega)]
        · rw [if_neg q, if_neg (by omega)]
theorem lin_b2 {nx : Nat → (Nat → Nat) → Option Nat → (Nat → Nat)} {B : Nat} {fw hs : (Nat → Nat) → Nat} {m d : Nat} {H : Nat → Nat} {base : Nat} {acc : Nat × Nat × Nat} (h1 : acc.1 ≤ 8) (h2 : acc.2.1 ≤ 140) (hf : ∀ G, fw G ≤ 7) (hsb : ∀ k, hs (simT nx B m d H k) ≤ 140) : ∀ k, (linF nx B fw hs m d H base acc k).1 ≤ 8 ∧ (linF nx B fw hs m d H base acc k).2.1 ≤ 140 := by
  intro k
  induction k with
  | zero => exact ⟨h1, h2⟩
  | succ k ih =>
    rw [linF]
    unfold updA
    split
    · exact ⟨Nat.le_succ_of_le (hf _), hsb k⟩
    · exact ih
theorem sim_HB {kinds : Nat → Int32} {wn cd : Nat → Nat} {n q c : Nat} {lk : Nat → Nat → Bool} (r : Nat) : ∀ (m d : Nat) (H : Nat → Nat), HB n H → HB n (simT (nxT kinds wn cd n q c lk) (n + 1) m d H r) := by
  intro m
  induction m with
  | zero => intro d H h; exact h
  | succ m ih => intro d H h; rw [simT]; exact ih _ _ (HB_next h _)
theorem p_t94 {n q c N d : Nat} {wn cd : Nat → Nat} {kinds told : Nat → Int32} (CT : CTR n q c wn cd kinds told) (hN : N ≤ 4) {lk : Nat → Nat → Bool} {H : Nat → Nat} (hH : HB n H) (hd : d ≤ 1000) (x2 : Int32) {aside : Nat → Int32} (RA : RS n d H lk aside) : ∀ (m r F : Nat) (st : Nat → Int32), r + m = (n + 1) ^ N → m < F → (∀ j, j < 15 → st j = aside j) → ∃ st', f_X9_turns_b94 told F (nI N) x2 (nI ((n + 1) ^ N)) (nI (LF kinds wn cd n q c lk N d H 0 (8, 0, 0) r).1) (nI (LF kinds wn cd n q c lk N d H 0 (8, 0, 0) r).2.1) (nI (LF kinds wn cd n q c lk N d H 0 (8, 0, 0) r).2.2) (nI r) st aside = (if 2 ≤ x2 then f_X9_turns_b259 told 5000 (nI N) x2 (nI (LF kinds wn cd n q c lk N d H 0 (8, 0, 0) ((n + 1) ^ N)).2.2) (nI ((n + 1) ^ N)) 0 st' aside else if x2 = 0 then some (nI (LF kinds wn cd n q c lk N d H 0 (8, 0, 0) ((n + 1) ^ N)).1, st', aside) else some (nI (LF kinds wn cd n q c lk N d H 0 (8, 0, 0) ((n + 1) ^ N)).2.1, st', aside)) ∧ (∀ j, j < 15 → st' j = aside j) := by
  have hn := CT.1
  obtain ⟨pN0, pN⟩ := pow_b hn hN
  intro m
  induction m with
  | zero =>
    intro r F st hk hF hst
    obtain ⟨F, rfl⟩ : ∃ F', F = F' + 1 := ⟨F - 1, by omega⟩
    obtain rfl : r = (n + 1) ^ N := by omega
    refine ⟨st, ?_, hst⟩
    show f_X9_turns_s94 told (f_X9_turns_b94 told F) _ _ _ _ _ _ _ _ _ = _
    unfold f_X9_turns_s94
    rw [if_pos (nI_le (Nat.le_refl _) (by omega))]
  | succ m ih =>
    intro r F st hk hF hst
    obtain ⟨F, rfl⟩ : ∃ F', F = F' + 1 := ⟨F - 1, by omega⟩
    have hb := lin_b2 (nx := nxT kinds wn cd n q c lk) (B := n + 1) (fw := fwT n) (hs := hsT) (m := N) (d := d) (H := H) (base := 0) (acc := (8, 0, 0)) (by decide) (by decide) (fwT_le hn) (fun k => hsT_le (sim_HB k N d H hH).1) r
    obtain ⟨st1, e1⟩ := p_t106 CT hN (show r < (n + 1) ^ N by omega) (lk := lk) (f_X9_turns_b94 told F) x2 (nI ((n + 1) ^ N)) aside (LF kinds wn cd n q c lk N d H 0 (8, 0, 0) r) hb.1 hb.2 N 0 5000 d H st (by omega) (by omega) (by omega) hH (RS_same RA hst)
    obtain ⟨st2, e2, e3⟩ := p_t203 told (f_X9_turns_b94 told F) (nI N) x2 (nI ((n + 1) ^ N)) (nI (updA (LF kinds wn cd n q c lk N d H 0 (8, 0, 0) r) (fwT n (simT (nxT kinds wn cd n q c lk) (n + 1) N d H r)) (hsT (simT (nxT kinds wn cd n q c lk) (n + 1) N d H r)) r).1) (nI (updA (LF kinds wn cd n q c lk N d H 0 (8, 0, 0) r) (fwT n (simT (nxT kinds wn cd n q c lk) (n + 1) N d H r)) (hsT (simT (nxT kinds wn cd n q c lk) (n + 1) N d H r)) r).2.1) (nI (updA (LF kinds wn cd n q c lk N d H 0 (8, 0, 0) r) (fwT n (simT (nxT kinds wn cd n q c lk) (n + 1) N d H r)) (hsT (simT (nxT kinds wn cd n q c lk) (n + 1) N d H r)) r).2.2) (nI r) aside 15 0 5000 st1 (by omega) (by omega)
    obtain ⟨st', e4, e5⟩ := ih (r + 1) F st2 (by omega) (by omega) (fun j hj => by rw [e3 j, if_pos (by omega)])
    refine ⟨st', ?_, e5⟩
    show f_X9_turns_s94 told (f_X9_turns_b94 told F) (nI N) x2 (nI ((n + 1) ^ N)) (nI (LF kinds wn cd n q c lk N d H 0 (8, 0, 0) r).1) (nI (LF kinds wn cd n q c lk N d H 0 (8, 0, 0) r).2.1) (nI (LF kinds wn cd n q c lk N d H 0 (8, 0, 0) r).2.2) (nI r) st aside = _
    unfold f_X9_turns_s94
    rw [if_neg (nI_ge (show r < (n + 1) ^ N by omega) (by omega))]
    rw [nI_0] at e1 e2
    rw [e1]
    unfold f_X9_turns_b200
    rw [e2, nI_1]
    have hstep : LF kinds wn cd n q c lk N d H 0 (8, 0, 0) (r + 1) = updA (LF kinds wn cd n q c lk N d H 0 (8, 0, 0) r) (fwT n (simT (nxT kinds wn cd n q c lk) (n + 1) N d H r)) (hsT (simT (nxT kinds wn cd n q c lk) (n + 1) N d H r)) r := by
      show updA (LF kinds wn cd n q c lk N d H 0 (8, 0, 0) r) (fwT n (simT (nxT kinds wn cd n q c lk) (n + 1) N d H r)) (hsT (simT (nxT kinds wn cd n q c lk) (n + 1) N d H r)) (0 + r) = _
      rw [Nat.zero_add]
    rw [hstep] at e4
    exact e4
theorem p_t259 {n N w b : Nat} (hn : n ≤ 7) (hN : N ≤ 4) (hw : w ≤ 3) (hb : b < 2 ^ 20) {told : Nat → Int32} (t0 : told 0 = nI n) (st aside : Nat → Int32) : ∀ (m k F : Nat), k + m = w + 1 → m < F → f_X9_turns_b259 told F (nI N) (nI (w + 2)) (nI b) (nI ((n + 1) ^ (N - k))) (nI k) st aside = some (if N ≤ w then -1 else nI (b / (n + 1) ^ (N - 1 - w) % (n + 1)) - 1, st, aside) := by
  have e2 : nI (w + 2) - 2 = nI w := by rw [show (2 : Int32) = nI 2 from rfl, pk_sub (by omega)]; rfl
  have eB : told 0 + 1 = nI (n + 1) := by rw [t0, nI_1]
  intro m
  induction m with
  | zero =>
    intro k F hk hF
    obtain ⟨F, rfl⟩ : ∃ F', F = F' + 1 := ⟨F - 1, by omega⟩
    obtain ⟨p0, p1⟩ := pow_b hn (show N - k ≤ 4 by omega)
    have hle : b / (n + 1) ^ (N - k) ≤ b := Nat.div_le_self _ _
    show f_X9_turns_s259 told (f_X9_turns_b259 told F) _ _ _ _ _ _ _ = _
    unfold f_X9_turns_s259
    rw [e2, eB, if_pos (nI_lt (by omega) (by omega)), nz_in (nI_ne0 p0 (by omega)), nz_in (nI_ne0 (by omega) (by omega)), pk_div (by omega) p0 (by omega), pk_rem (by omega) (by omega) (by omega)]
    by_cases h1 : N ≤ w
    · rw [if_pos (nI_le h1 (by omega)), if_pos h1]
    · rw [if_neg (nI_ge (by omega) (by omega)), if_neg h1, show N - k = N - 1 - w by omega]
  | succ m ih =>
    intro k F hk hF
    obtain ⟨F, rfl⟩ : ∃ F', F = F' + 1 := ⟨F - 1, by omega⟩
    obtain ⟨p0, p1⟩ := pow_b hn (show N - k ≤ 4 by omega)
    have h2 := ih (k + 1) F (by omega) (by omega)
    show f_X9_turns_s259 told (f_X9_turns_b259 told F) _ _ _ _ _ _ _ = _
    unfold f_X9_turns_s259 f_X9_turns_b289
    rw [e2, eB, if_neg (nI_nlt (by omega) (by omega)), nI_1, nz_in (nI_ne0 (show 0 < n + 1 by omega) (by omega))]
    by_cases h1 : N ≤ k
    · rw [if_pos (nI_le h1 (by omega)), show N - k = N - (k + 1) by omega]
      exact h2
    · rw [if_neg (nI_ge (by omega) (by omega)), pk_div (by omega) (by omega) (by omega), show N - k = (N - (k + 1)) + 1 by omega, pow_div (Nat.succ_pos n)]
      exact h2
theorem p_t58 {n N : Nat} (hn : n ≤ 7) (hN : N ≤ 4) {told : Nat → Int32} (t0 : told 0 = nI n) (x2 : Int32) (st aside : Nat → Int32) : ∀ (m k F : Nat), k + m = N → m < F → f_X9_turns_b58 told F (nI N) x2 (nI ((n + 1) ^ k)) (nI k) st aside = f_X9_turns_b94 told 5000 (nI N) x2 (nI ((n + 1) ^ N)) 8 0 0 0 st aside := by
  intro m
  induction m with
  | zero =>
    intro k F hk hF
    obtain ⟨F, rfl⟩ : ∃ F', F = F' + 1 := ⟨F - 1, by omega⟩
    obtain rfl : k = N := by omega
    show f_X9_turns_s58 told (f_X9_turns_b58 told F) _ _ _ _ _ _ = _
    unfold f_X9_turns_s58
    rw [if_pos (nI_le (Nat.le_refl _) (by omega))]
  | succ m ih =>
    intro k F hk hF
    obtain ⟨F, rfl⟩ : ∃ F', F = F' + 1 := ⟨F - 1, by omega⟩
    have h2 := ih (k + 1) F (by omega) (by omega)
    show f_X9_turns_s58 told (f_X9_turns_b58 told F) _ _ _ _ _ _ = _
    unfold f_X9_turns_s58
    have eB : told 0 + 1 = nI (n + 1) := by rw [t0, nI_1]
    rw [if_neg (nI_ge (by omega) (by omega)), eB, pk_mul, ← Nat.pow_succ, nI_1]
    exact h2
theorem p_t29 (told : Nat → Int32) (x1 x2 : Int32) (st : Nat → Int32) : ∀ (m k F : Nat) (aside : Nat → Int32), k + m = 15 → m < F → ∃ aside', f_X9_turns_b29 told F x1 x2 (nI k) st aside = f_X9_turns_b58 told 5000 x1 x2 1 0 st aside' ∧ ∀ j, aside' j = if k ≤ j ∧ j < 15 then st j else aside j := by
  intro m
  induction m with
  | zero =>
    intro k F aside hk hF
    obtain ⟨F, rfl⟩ : ∃ F', F = F' + 1 := ⟨F - 1, by omega⟩
    refine ⟨aside, ?_, fun j => by rw [if_neg (by omega)]⟩
    show f_X9_turns_s29 told (f_X9_turns_b29 told F) x1 x2 (nI k) st aside = _
    unfold f_X9_turns_s29
    rw [if_pos (show (15 : Int32) ≤ nI k from nI_le (a := 15) (b := k) (by omega) (by omega))]
  | succ m ih =>
    intro k F aside hk hF
    obtain ⟨F, rfl⟩ : ∃ F', F = F' + 1 := ⟨F - 1, by omega⟩
    obtain ⟨aside', e1, e2⟩ := ih (k + 1) F (upd aside k (st k)) (by omega) (by omega)
    refine ⟨aside', ?_, fun j => ?_⟩
    · show f_X9_turns_s29 told (f_X9_turns_b29 told F) x1 x2 (nI k) st aside = _
      unfold f_X9_turns_s29
      rw [if_neg (show ¬ (15 : Int32) ≤ nI k from nI_ge (a := k) (b := 15) (by omega) (by omega)), gd_nI (by omega) (by omega), gd_nI (by omega) (by omega), cl (by omega), nI_1]
      exact e1
    · rw [e2 j]
      by_cases hj : j = k
      · subst hj
        rw [if_neg (by omega), if_pos (by omega), pk_us]
      · rw [pk_un hj]
        by_cases q : k + 1 ≤ j ∧ j < 15
        · rw [if_pos q, if_pos (by omega)]
        · rw [if_neg q, if_neg (by omega)]
theorem row_lt {nx : Nat → (Nat → Nat) → Option Nat → (Nat → Nat)} {B : Nat} {fw hs : (Nat → Nat) → Nat} {m d : Nat} {H : Nat → Nat} {acc : Nat × Nat × Nat} {M : Nat} (ha : acc.2.2 ≤ M) : ∀ k, k ≤ M → (linF nx B fw hs m d H 0 acc k).2.2 ≤ M := by
  intro k
  induction k with
  | zero => intro _; exact ha
  | succ k ih =>
    intro hk
    rw [linF]
    unfold updA
    split
    · show 0 + k ≤ M; omega
    · exact ih (by omega)
theorem q_turns {n q c : Nat} {wn cd : Nat → Nat} {lt : Nat → Nat → Bool} {fam quota cc date frozen : Int32} {kinds warmths prices tfav colds told healths fav st : Nat → Int32} (T : TOR n q c wn cd lt fam quota cc kinds warmths prices tfav colds told) (W : WIX n date frozen healths fav st) (few most : Int32) (wD wF askers best aside : Nat → Int32) (wH wV : Nat → Nat → Int32) (x y : Int32) : ∃ r few' most' wD' wF' wH' wV' askers' best' st' aside', f_X8_turns few most fam quota cc date frozen wD wF healths wH fav wV kinds askers colds warmths best x y = some (r, few', most', wD', wF', wH', wV', askers', best') ∧ f_X9_turns st aside told x y = some (r, st', aside') ∧ WIX n date frozen healths fav st' := by
  have W0 := W
  obtain ⟨d, h, lk, Wi⟩ := W
  obtain ⟨hn, hq, hc, ⟨rfl, rfl, rfl⟩, ⟨t0, t1, t2⟩, tk, tw, tp, tc, hw, hkd, hcs, hcd, hF, hL⟩ := T
  obtain ⟨hd, rfl, s14, rfl, hh, hs, hb, hz, wF', wL, hlk⟩ := Wi
  have CT : CTX n q c wn cd kinds warmths colds := ⟨hn, hq, hc, hw, hcd, hcs⟩
  have CR : CTR n q c wn cd kinds told := ⟨hn, hc, t0, t1, t2, tk, fun k hk => by rw [tw k (by omega)]; exact hw k hk, hcd, fun j hj => by rw [tc j (by omega)]; exact hcs j hj⟩
  have out : ∀ {hi : Nat} {w : Int32}, (w < 0 ∨ ¬ w ≤ nI hi) → ¬ w < 0 → nI hi < w := fun {hi w} ho hn => by
    have h1 := ho.resolve_left hn
    apply Int32.lt_iff_toInt_lt.mpr
    have h2 : ¬ w.toInt ≤ (nI hi).toInt := fun q => h1 (Int32.le_iff_toInt_le.mpr q)
    omega
  have inn : ∀ {hi : Nat} {w : Int32}, w ≤ nI hi → ¬ nI hi < w := fun {hi w} h q => by
    have a := Int32.le_iff_toInt_le.mp h
    have b := Int32.lt_iff_toInt_lt.mp q
    omega
  unfold f_X8_turns f_X9_turns
  rcases p_rng (hi := 4) (by decide) x with ⟨N, hN, rfl, n1, n2, n9⟩ | ⟨ho, n9⟩
  · have n9' : f_X9_in (Int32.toInt64 (nI N)) 0 4 = some 1 := n9
    rw [if_neg n1, if_neg (show ¬ (4 : Int32) < nI N from inn n2), n9', bs, if_neg (show ¬ (1 : Int32) = 0 by decide)]
    rcases p_rng (hi := 5) (by decide) y with ⟨v, hv, rfl, v1, v2, v9⟩ | ⟨ho, v9⟩
    · have v9' : f_X9_in (Int32.toInt64 (nI v)) 0 5 = some 1 := v9
      rw [if_neg v1, if_pos (show nI v < 6 from nI_lt (a := v) (b := 6) (by omega) (by omega)), v9', bs, if_neg (show ¬ (1 : Int32) = 0 by decide)]
      obtain ⟨pN0, pN⟩ := pow_b hn hN
      have hHB : HB n h := ⟨hb, hz⟩
      have hRS : RS n d h lk st := ⟨s14, hs, wL⟩
      obtain ⟨as1, a1, a2⟩ := p_t29 told (nI N) (nI v) st 15 0 5000 aside (by omega) (by omega)
      have a3 := p_t58 hn hN t0 (nI v) st as1 N 0 5000 (by omega) (by omega)
      have has : ∀ j, j < 15 → as1 j = st j := fun j hj => by rw [a2 j, if_pos (by omega)]
      obtain ⟨st', a4, a5⟩ := p_t94 CR hN (lk := lk) hHB (show d ≤ 1000 by omega) (nI v) (RS_same hRS has) ((n + 1) ^ N) 0 5000 st (by omega) (by omega) (fun j hj => (has j hj).symm)
      have hst : ∀ j, j < 15 → st' j = st j := fun j hj => (a5 j hj).trans (has j hj)
      have WW : WIX n (nI d) (nI (zset n h)) healths fav st' := WIX_same W0 (fun k _ => rfl) (fun k _ => rfl) hst
      rw [nI_0] at a1 a3
      rw [a1]
      have a3' : f_X9_turns_b58 told 5000 (nI N) (nI v) 1 0 st as1 = _ := a3
      have a4' : f_X9_turns_b94 told 5000 (nI N) (nI v) (nI ((n + 1) ^ N)) 8 0 0 0 st as1 = _ := a4
      rw [a3', a4']
      have e2N : (2 : Int32) + nI N = nI (2 + N) := nI_add 2 N
      rw [e2N]
      by_cases hvN : v < 2 + N
      · rw [if_pos (nI_lt hvN (by omega))]
        unfold f_X3_find f_X7_copyFrom
        rw [bd4s]
        obtain ⟨few1, most1, wD1, wF1, wV1, askers1, wH1, best1, e4, R4, -, -⟩ := try_0 CT hN (lk := lk) (Nat.zero_le N) (d := d) (H := h) (pre := 0) (acc := (8, 0, 0)) (few := 8) (most := 0) (wD := va_up wD 0 (nI d)) (wF := va_up wF 0 (nI (zset n h))) (wV := va_up wV 0 (va_cpy fav (wV 0) 0 0 7)) (askers := askers) (wH := va_up wH 0 (va_cpy healths (wH 0) 0 0 7)) (best := best) (by omega) hHB (by rw [va_up_self, va_up_self, va_up_self, va_up_self]; exact ⟨rfl, rfl, w7 hh, w7 (h := fset n lk) wF'⟩) (fun j hj => absurd hj (Nat.not_lt_zero j)) ⟨by decide, by decide, rfl, rfl, fun q => absurd q (Nat.lt_irrefl 8)⟩
        rw [e4, bd8s, bd8s]
        rw [Nat.zero_mul, Nat.sub_zero] at R4
        obtain ⟨r1, r2, r3, r4, r5⟩ := R4
        have hA7 : (LF kinds wn cd n q c lk N d h 0 (8, 0, 0) ((n + 1) ^ N)).1 ≤ 7 := lin_b (nx := nxT kinds wn cd n q c lk) (B := n + 1) (fw := fwT n) (hs := hsT) (m := N) (d := d) (H := h) (base := 0) (acc := (8, 0, 0)) (fwT_le hn) ((n + 1) ^ N) pN0
        have hrow : (LF kinds wn cd n q c lk N d h 0 (8, 0, 0) ((n + 1) ^ N)).2.2 ≤ (n + 1) ^ N := row_lt (nx := nxT kinds wn cd n q c lk) (B := n + 1) (fw := fwT n) (hs := hsT) (m := N) (d := d) (H := h) (acc := (8, 0, 0)) (M := (n + 1) ^ N) (Nat.zero_le _) ((n + 1) ^ N) (Nat.le_refl _)
        rcases (show v = 0 ∨ v = 1 ∨ 2 ≤ v by omega) with rfl | rfl | h2
        · rw [if_pos (show nI 0 = 0 from nI_0), if_neg (show ¬ (2 : Int32) ≤ nI 0 by decide), if_pos (show nI 0 = 0 from nI_0), r3]
          exact ⟨_, _, _, _, _, _, _, _, _, _, _, rfl, rfl, WW⟩
        · rw [if_neg (show ¬ nI 1 = 0 by decide), if_pos (show nI 1 = 1 from rfl), if_neg (show ¬ (2 : Int32) ≤ nI 1 by decide), if_neg (show ¬ nI 1 = 0 by decide), r4]
          exact ⟨_, _, _, _, _, _, _, _, _, _, _, rfl, rfl, WW⟩
        · obtain ⟨w, rfl⟩ : ∃ w, v = w + 2 := ⟨v - 2, by omega⟩
          have ew : nI (w + 2) - 2 = nI w := by rw [show (2 : Int32) = nI 2 from rfl, pk_sub (by omega)]; rfl
          have a6 := p_t259 (w := w) (b := (LF kinds wn cd n q c lk N d h 0 (8, 0, 0) ((n + 1) ^ N)).2.2) hn hN (by omega) (by omega) t0 st' as1 (w + 1) 0 5000 (by omega) (by omega)
          rw [nI_0] at a6
          have a6' : f_X9_turns_b259 told 5000 (nI N) (nI (w + 2)) (nI (LF kinds wn cd n q c lk N d h 0 (8, 0, 0) ((n + 1) ^ N)).2.2) (nI ((n + 1) ^ N)) 0 st' as1 = _ := a6
          rw [if_neg (nI_ne0 (by omega) (by omega)), if_neg (show ¬ nI (w + 2) = 1 from fun q => by have := (nI_eq (a := w + 2) (b := 1) (by omega) (by omega)).mp q; omega), if_pos (show (2 : Int32) ≤ nI (w + 2) from nI_le (a := 2) (b := w + 2) (by omega) (by omega)), ew, gd_nI (show w < 4 by omega) (by omega), cl (by omega), a6', if_neg (show ¬ N ≤ w by omega), askI, r5 (by omega) w (by omega)]
          exact ⟨_, _, _, _, _, _, _, _, _, _, _, rfl, rfl, WW⟩
      · rw [if_neg (nI_nlt (by omega) (by omega))]
        obtain ⟨w, rfl⟩ : ∃ w, v = w + 2 := ⟨v - 2, by omega⟩
        have hrow : (LF kinds wn cd n q c lk N d h 0 (8, 0, 0) ((n + 1) ^ N)).2.2 ≤ (n + 1) ^ N := row_lt (nx := nxT kinds wn cd n q c lk) (B := n + 1) (fw := fwT n) (hs := hsT) (m := N) (d := d) (H := h) (acc := (8, 0, 0)) (M := (n + 1) ^ N) (Nat.zero_le _) ((n + 1) ^ N) (Nat.le_refl _)
        have a6 := p_t259 (w := w) (b := (LF kinds wn cd n q c lk N d h 0 (8, 0, 0) ((n + 1) ^ N)).2.2) hn hN (by omega) (by omega) t0 st' as1 (w + 1) 0 5000 (by omega) (by omega)
        rw [nI_0] at a6
        have a6' : f_X9_turns_b259 told 5000 (nI N) (nI (w + 2)) (nI (LF kinds wn cd n q c lk N d h 0 (8, 0, 0) ((n + 1) ^ N)).2.2) (nI ((n + 1) ^ N)) 0 st' as1 = _ := a6
        rw [if_pos (show (2 : Int32) ≤ nI (w + 2) from nI_le (a := 2) (b := w + 2) (by omega) (by omega)), a6', if_pos (show N ≤ w by omega)]
        exact ⟨_, _, _, _, _, _, _, _, _, _, _, rfl, rfl, WW⟩
    · have v9' : f_X9_in (Int32.toInt64 y) 0 5 = some 0 := v9
      rw [v9']
      refine ⟨-3, few, most, wD, wF, wH, wV, askers, best, st, aside, ?_, rfl, W0⟩
      by_cases h1 : y < 0
      · rw [if_pos h1]
      · rw [if_neg h1, if_neg (show ¬ y < 6 from fun q => by
          have a := Int32.lt_iff_toInt_lt.mp (out ho h1)
          have b := Int32.lt_iff_toInt_lt.mp q
          have e5 : (nI 5).toInt = 5 := rfl
          have e6 : (6 : Int32).toInt = 6 := rfl
          omega)]
  · have n9' : f_X9_in (Int32.toInt64 x) 0 4 = some 0 := n9
    rw [n9']
    refine ⟨-3, few, most, wD, wF, wH, wV, askers, best, st, aside, ?_, rfl, W0⟩
    by_cases h1 : x < 0
    · rw [if_pos h1]
    · rw [if_neg h1, if_pos (show (4 : Int32) < x from out ho h1)]
