def kwB (wn cd : Nat → Nat) (n c d : Nat) (h : Nat → Nat) (f s : Nat) : Bool := decide (s &&& aset n h = s) && (s.testBit f && !decide (warmN wn n s < coldN c cd d))
theorem bd4s {A0 A1 A2 A3 R : Type} (a0 : A0) (a1 : A1) (a2 : A2) (a3 : A3) (k : A0 → A1 → A2 → A3 → Option R) : bd4 (some (a0, a1, a2, a3)) k = k a0 a1 a2 a3 := rfl
theorem bd5s {A0 A1 A2 A3 A4 R : Type} (a0 : A0) (a1 : A1) (a2 : A2) (a3 : A3) (a4 : A4) (k : A0 → A1 → A2 → A3 → A4 → Option R) : bd5 (some (a0, a1, a2, a3, a4)) k = k a0 a1 a2 a3 a4 := rfl
theorem p_search_loop {n c d f : Nat} (hn : n ≤ 7) (hf : f < n) {warmths colds : Nat → Int32} {wn cd h : Nat → Nat} (hw : ∀ k, k < n → warmths k = nI (wn k) ∧ wn k ≤ 9) (hcd : ∀ j, cd j ≤ 40) (cc dt z l0 : Int32) : ∀ (m k F : Nat) (fm st ls : Int32) (ti : Nat → Int32), k + m = 2 ^ n → m < F → FWR (kwB wn cd n c d h f) f k l0 fm st ls ti → ∃ fm' st' ls' ti', f_X4_search_b37 (nI n) cc dt z colds warmths F (nI f) (nI (coldN c cd d)) (nI (aset n h)) (nI k) fm st ls ti = some (fm', st', ls', ti') ∧ FWR (kwB wn cd n c d h f) f (2 ^ n) l0 fm' st' ls' ti' := by
  have hp : 2 ^ n ≤ 2 ^ 7 := Nat.pow_le_pow_right (by decide) hn
  have hp1 : 0 < 2 ^ n := Nat.pos_of_ne_zero (by simp)
  have hal : aset n h < 2 ^ n := setOf_lt _ n
  have hcl : coldN c cd d ≤ 40 := cold_le hcd
  intro m
  induction m with
  | zero =>
    intro k F fm st ls ti hk hF R
    obtain ⟨F, rfl⟩ : ∃ F', F = F' + 1 := ⟨F - 1, by omega⟩
    obtain rfl : k = 2 ^ n := by omega
    refine ⟨fm, st, ls, ti, ?_, R⟩
    show f_X4_search_s37 (nI n) cc dt z colds warmths (f_X4_search_b37 (nI n) cc dt z colds warmths F) _ _ _ _ _ _ _ _ = _
    unfold f_X4_search_s37
    rw [(p_all n hn).1, bs, if_pos (nI_lt (by omega) (by omega))]
  | succ m ih =>
    intro k F fm st ls ti hk hF R
    obtain ⟨F, rfl⟩ : ∃ F', F = F' + 1 := ⟨F - 1, by omega⟩
    have hk128 : k < 128 := by omega
    have h8 := minF_le8 (kwB wn cd n c d h f) k
    have hpk := pcn_le k hk128
    obtain ⟨w1, w2⟩ := warm_nI (s := k) hw
    have hsk := fun (q : kwB wn cd n c d h f k = false ∨ minF (kwB wn cd n c d h f) k < pcn k) => ih (k + 1) F fm st ls ti (by omega) (by omega) (FWR_skip q R)
    show ∃ fm' st' ls' ti', f_X4_search_s37 (nI n) cc dt z colds warmths (f_X4_search_b37 (nI n) cc dt z colds warmths F) _ _ _ _ _ _ _ _ = _ ∧ _
    unfold f_X4_search_s37 f_X4_search_b69 f_X4_search_b70 f_X4_search_b107
    rw [(p_all n hn).1, bs, if_neg (nI_nlt (by omega) (by omega)), p_within k hk128 _ (by omega), bs, p_holds k (by omega) f (by omega), bs, p_bitCount k hk128, bs, p_warmthOfSet hn hk128, bs, w1, nI_1]
    simp only [if_pos (show (0 : Int32) = 0 from rfl), if_neg (show ¬ (1 : Int32) = 0 by decide)]
    by_cases h1 : k &&& aset n h = k
    · rw [if_pos h1, if_neg (by decide)]
      by_cases h2 : k.testBit f = true
      · rw [if_pos h2, if_neg (by decide)]
        have hfm := R.1
        by_cases h3 : minF (kwB wn cd n c d h f) k < pcn k
        · rw [hfm, if_pos (nI_lt h3 (by omega)), ← hfm]
          exact hsk (Or.inr h3)
        · rw [hfm, if_neg (nI_nlt (by omega) (by omega)), ← hfm]
          by_cases h4 : warmN wn n k < coldN c cd d
          · rw [if_pos (nI_lt h4 (by omega))]
            exact hsk (Or.inl (by unfold kwB; simp [h4]))
          · rw [if_neg (nI_nlt (by omega) (by omega))]
            obtain ⟨fm', st', ls', ti', e, R'⟩ := p_take (by omega) hk128 (show kwB wn cd n c d h f k = true by unfold kwB; simp [h1, h2, h4]) (by omega) R
            rw [e, bd4s]
            exact ih (k + 1) F fm' st' ls' ti' (by omega) (by omega) R'
      · rw [if_neg h2, if_pos rfl]
        exact hsk (Or.inl (by unfold kwB; simp [h2]))
    · rw [if_neg h1, if_pos rfl]
      exact hsk (Or.inl (by unfold kwB; simp [h1]))
theorem p_search {n c d f : Nat} (hn : n ≤ 7) (hf : f < n) (hc : c ≤ 6) (hd : d < 1024) {warmths colds : Nat → Int32} {wn cd h : Nat → Nat} (hw : ∀ k, k < n → warmths k = nI (wn k) ∧ wn k ≤ 9) (hcs : ∀ j, j < c → colds j = nI (cd j)) (hcd : ∀ j, cd j ≤ 40) (s1 s2 l0 : Int32) (t0 : Nat → Int32) : ∃ fm' st' ls' ti', f_X4_search s1 s2 l0 (nI n) (nI c) (nI d) (nI (zset n h)) colds warmths t0 (nI f) = some (fm', st', ls', ti') ∧ FWR (kwB wn cd n c d h f) f (2 ^ n) l0 fm' st' ls' ti' := by
  have hp : 2 ^ n ≤ 2 ^ 7 := Nat.pow_le_pow_right (by decide) hn
  unfold f_X4_search
  rw [p_cold5 hc (by omega) hcs, bs, (p_all n hn).1, bs, p_compl n hn _ (setOf_lt _ n), setOf_not]
  exact p_search_loop hn hf hw hcd (nI c) (nI d) (nI (zset n h)) l0 (2 ^ n) 0 5000 8 0 l0 t0 (by omega) (by omega) ⟨rfl, rfl, rfl, fun q => absurd q (Nat.lt_irrefl 8)⟩
theorem p_isFew {n c d f s mm : Nat} (hn : n ≤ 7) (hf : f < n) (hc : c ≤ 6) (hd : d < 1024) (hs : s < 2 ^ n) (hmm : mm ≤ 8) {told st : Nat → Int32} {wn cd h : Nat → Nat} (t0 : told 0 = nI n) (t2 : told 2 = nI c) (s14 : st 14 = nI d) (hw : ∀ k, k < n → told (10 + k) = nI (wn k) ∧ wn k ≤ 9) (hcs : ∀ j, j < c → told (31 + j) = nI (cd j)) (hcd : ∀ j, cd j ≤ 40) : f_X9_isFew (nI mm) told st (nI s) (nI f) (nI (aset n h)) = some (b2 (fewP (kwB wn cd n c d h f) mm s)) := by
  have hp : 2 ^ n ≤ 2 ^ 7 := Nat.pow_le_pow_right (by decide) hn
  have hal : aset n h < 2 ^ n := setOf_lt _ n
  have hcl : coldN c cd d ≤ 40 := cold_le hcd
  have hpk := pcn_le s (by omega)
  obtain ⟨w1, w2⟩ := warm_nI (s := s) (wi := fun k => told (10 + k)) hw
  unfold f_X9_isFew
  rw [p_has s (by omega) f (by omega), bs, p_ones s (by omega), bs, p_warmBy hn (by omega) told t0, bs, w1, p_cold9 hc (by omega) t2 s14 hcs, bs]
  unfold fewP kwB
  by_cases h2 : s.testBit f = true
  · rw [if_pos h2, if_neg (by decide)]
    by_cases h1 : s &&& aset n h = s
    · rw [if_pos ((p_subset hn hs hal).mpr h1)]
      by_cases h3 : pcn s = mm
      · rw [if_pos (by rw [h3])]
        by_cases h4 : warmN wn n s < coldN c cd d
        · rw [if_pos (nI_lt h4 (by omega))]; simp [h4, b2]
        · rw [if_neg (nI_nlt (by omega) (by omega))]; simp [h1, h2, h3, h4, b2]
      · rw [if_neg (fun q => h3 ((nI_eq (by omega) (by omega)).mp q))]; simp [h3, b2]
    · rw [if_neg (fun q => h1 ((p_subset hn hs hal).mp q))]; simp [h1, b2]
  · rw [if_neg h2, if_pos rfl]; simp [h2, b2]
theorem p_ff1 {n c d f : Nat} (hn : n ≤ 7) (hf : f < n) (hc : c ≤ 6) (hd : d < 1024) {told st : Nat → Int32} {wn cd h : Nat → Nat} (t0 : told 0 = nI n) (t2 : told 2 = nI c) (s14 : st 14 = nI d) (hw : ∀ k, k < n → told (10 + k) = nI (wn k) ∧ wn k ≤ 9) (hcs : ∀ j, j < c → told (31 + j) = nI (cd j)) (hcd : ∀ j, cd j ≤ 40) (y1 y2 y3 : Int32) : ∀ (m k F : Nat), k + m = aset n h + 1 → m < F → f_X9_findFewest_b13 told st F (nI f) (nI (aset n h)) (nI k) (nI (minF (kwB wn cd n c d h f) k)) y1 y2 y3 = f_X9_findFewest_b105 told st 5000 (nI f) (nI (aset n h)) 1 (nI (aset n h)) (nI (minF (kwB wn cd n c d h f) (aset n h + 1))) 0 y2 0 := by
  have hp : 2 ^ n ≤ 2 ^ 7 := Nat.pow_le_pow_right (by decide) hn
  have hal : aset n h < 2 ^ n := setOf_lt _ n
  have hcl : coldN c cd d ≤ 40 := cold_le hcd
  intro m
  induction m with
  | zero =>
    intro k F hk hF
    obtain ⟨F, rfl⟩ : ∃ F', F = F' + 1 := ⟨F - 1, by omega⟩
    obtain rfl : k = aset n h + 1 := by omega
    show f_X9_findFewest_s13 told st (f_X9_findFewest_b13 told st F) _ _ _ _ _ _ _ = _
    unfold f_X9_findFewest_s13
    rw [if_pos (nI_lt (Nat.lt_succ_self _) (by omega))]
  | succ m ih =>
    intro k F hk hF
    obtain ⟨F, rfl⟩ : ∃ F', F = F' + 1 := ⟨F - 1, by omega⟩
    have hks : k < 2 ^ n := by omega
    have hpk := pcn_le k (by omega)
    have h8 := minF_le8 (kwB wn cd n c d h f) k
    obtain ⟨w1, w2⟩ := warm_nI (s := k) (wi := fun k => told (10 + k)) hw
    have h2 := ih (k + 1) F (by omega) (by omega)
    have hskip : kwB wn cd n c d h f k = false → minF (kwB wn cd n c d h f) (k + 1) = minF (kwB wn cd n c d h f) k := fun q => by rw [minF, q]; rfl
    show f_X9_findFewest_s13 told st (f_X9_findFewest_b13 told st F) _ _ _ _ _ _ _ = _
    unfold f_X9_findFewest_s13 f_X9_findFewest_b50 f_X9_findFewest_b51 f_X9_findFewest_b77 f_X9_findFewest_b81
    rw [if_neg (nI_nlt (by omega) (by omega)), p_has k (by omega) f (by omega), bs, p_ones k (by omega), bs, bs, p_warmBy hn (by omega) told t0, bs, w1, p_cold9 hc (by omega) t2 s14 hcs, bs, nI_1]
    simp only [if_pos (show (0 : Int32) = 0 from rfl), if_neg (show ¬ (1 : Int32) = 0 by decide)]
    by_cases h3 : k.testBit f = true
    · rw [if_pos h3, if_neg (by decide)]
      by_cases h1 : k &&& aset n h = k
      · rw [if_pos ((p_subset hn hks hal).mpr h1)]
        by_cases h4 : warmN wn n k < coldN c cd d
        · rw [if_pos (nI_lt h4 (by omega))]
          rw [hskip (by unfold kwB; simp [h4])] at h2
          exact h2
        · rw [if_neg (nI_nlt (by omega) (by omega))]
          have e : kwB wn cd n c d h f k = true := by unfold kwB; simp [h1, h3, h4]
          rw [minF, e, Bool.true_and] at h2
          by_cases h5 : pcn k < minF (kwB wn cd n c d h f) k
          · rw [if_neg (nI_ge h5 (by omega))]
            rw [if_pos (by simp [h5])] at h2
            exact h2
          · rw [if_pos (nI_le (by omega) (by omega))]
            rw [if_neg (by simp [h5])] at h2
            exact h2
      · rw [if_neg (fun q => h1 ((p_subset hn hks hal).mp q))]
        rw [hskip (by unfold kwB; simp [h1])] at h2
        exact h2
    · rw [if_neg h3, if_pos rfl]
      rw [hskip (by unfold kwB; simp [h3])] at h2
      exact h2
theorem oN_first (P : Nat → Bool) (k : Nat) (x : Int32) : oN (firstF P (k + 1)) x = oN (firstF P k) (if P k then nI k else x) := by
  rw [firstF]
  cases firstF P k with
  | none => simp only [Option.isSome_none]; by_cases h : P k = true <;> simp [h, oN]
  | some s => simp [oN]
theorem p_ff2 {n c d f mm : Nat} (hn : n ≤ 7) (hf : f < n) (hc : c ≤ 6) (hd : d < 1024) (hmm : mm ≤ 8) {told st : Nat → Int32} {wn cd h : Nat → Nat} (t0 : told 0 = nI n) (t2 : told 2 = nI c) (s14 : st 14 = nI d) (hw : ∀ k, k < n → told (10 + k) = nI (wn k) ∧ wn k ≤ 9) (hcs : ∀ j, j < c → told (31 + j) = nI (cd j)) (hcd : ∀ j, cd j ≤ 40) : ∀ (k F x : Nat) (ls : Int32), k ≤ 2 ^ n → k < F → f_X9_findFewest_b105 told st F (nI f) (nI (aset n h)) 1 (nI k - 1) (nI mm) (nI x) ls 0 = f_X9_findFewest_b146 told st 5000 (nI f) (nI (aset n h)) 1 0 (nI mm) (nI (x + cntB (fewP (kwB wn cd n c d h f) mm) k)) (oN (firstF (fewP (kwB wn cd n c d h f) mm) k) ls) 0 := by
  intro k
  induction k with
  | zero =>
    intro F x ls hk hF
    obtain ⟨F, rfl⟩ : ∃ F', F = F' + 1 := ⟨F - 1, by omega⟩
    show f_X9_findFewest_s105 told st (f_X9_findFewest_b105 told st F) (nI f) (nI (aset n h)) 1 (nI 0 - 1) (nI mm) (nI x) ls 0 = _
    unfold f_X9_findFewest_s105
    rw [if_pos (show nI 0 - 1 < 0 by decide)]
    rfl
  | succ k ih =>
    intro F x ls hk hF
    obtain ⟨F, rfl⟩ : ∃ F', F = F' + 1 := ⟨F - 1, by omega⟩
    have hp : 2 ^ n ≤ 2 ^ 7 := Nat.pow_le_pow_right (by decide) hn
    show f_X9_findFewest_s105 told st (f_X9_findFewest_b105 told st F) _ _ _ _ _ _ _ _ = _
    unfold f_X9_findFewest_s105 f_X9_findFewest_b137
    have em : nI k + -1 = nI k - 1 := (Int32.sub_eq_add_neg _ _).symm
    rw [nI_pred, if_neg (nI_pos (by omega)), p_isFew hn hf hc hd (by omega) hmm t0 t2 s14 hw hcs hcd, bs, em, nI_1, oN_first, cntB]
    by_cases h1 : fewP (kwB wn cd n c d h f) mm k = true
    · rw [h1, if_neg (show ¬ b2 true = 0 by decide), if_pos rfl, if_pos rfl, ih F (x + 1) (nI k) (by omega) (by omega), show x + 1 + cntB (fewP (kwB wn cd n c d h f) mm) k = x + (cntB (fewP (kwB wn cd n c d h f) mm) k + 1) by omega]
    · have h1' : fewP (kwB wn cd n c d h f) mm k = false := Bool.eq_false_iff.mpr h1
      rw [h1', if_pos (show b2 false = 0 by decide), ih F x ls (by omega) (by omega)]
      rfl
theorem p_ff3i {n c d f mm j : Nat} (hn : n ≤ 7) (hf : f < n) (hj : j < n) (hc : c ≤ 6) (hd : d < 1024) (hmm : mm ≤ 8) {told st : Nat → Int32} {wn cd h : Nat → Nat} (t0 : told 0 = nI n) (t2 : told 2 = nI c) (s14 : st 14 = nI d) (hw : ∀ k, k < n → told (10 + k) = nI (wn k) ∧ wn k ≤ 9) (hcs : ∀ j, j < c → told (31 + j) = nI (cd j)) (hcd : ∀ j, cd j ≤ 40) (K : Int32 → Int32 → Int32 → Int32 → Int32 → Int32 → Int32 → Int32 → Option (Int32 × Int32 × Int32 × Int32 × Int32)) (x3 y1 y2 y3 : Int32) (hjf : j ≠ f) : ∀ (m k F : Nat), k + m = aset n h + 1 → m < F → f_X9_findFewest_b163 told st K F (nI f) (nI (aset n h)) x3 (nI j) (nI (cntB (tinP (kwB wn cd n c d h f) mm f j) k)) (nI k) (nI mm) y1 y2 y3 = f_X9_findFewest_b212 told st K (nI f) (nI (aset n h)) x3 (nI j) (nI (cntB (tinP (kwB wn cd n c d h f) mm f j) (aset n h + 1))) (nI mm) y1 y2 y3 := by
  have hp : 2 ^ n ≤ 2 ^ 7 := Nat.pow_le_pow_right (by decide) hn
  have hal : aset n h < 2 ^ n := setOf_lt _ n
  have hjb : (j == f) = false := by simp [hjf]
  intro m
  induction m with
  | zero =>
    intro k F hk hF
    obtain ⟨F, rfl⟩ : ∃ F', F = F' + 1 := ⟨F - 1, by omega⟩
    obtain rfl : k = aset n h + 1 := by omega
    show f_X9_findFewest_s163 told st K (f_X9_findFewest_b163 told st K F) _ _ _ _ _ _ _ _ _ _ = _
    unfold f_X9_findFewest_s163
    rw [if_pos (nI_lt (Nat.lt_succ_self _) (by omega))]
  | succ m ih =>
    intro k F hk hF
    obtain ⟨F, rfl⟩ : ∃ F', F = F' + 1 := ⟨F - 1, by omega⟩
    have h2 := ih (k + 1) F (by omega) (by omega)
    show f_X9_findFewest_s163 told st K (f_X9_findFewest_b163 told st K F) _ _ _ _ _ _ _ _ _ _ = _
    unfold f_X9_findFewest_s163 f_X9_findFewest_b202 f_X9_findFewest_b203
    rw [if_neg (nI_nlt (by omega) (by omega)), if_neg (fun q => hjf ((nI_eq (by omega) (by omega)).mp q)), p_has k (by omega) j (by omega), bs, p_isFew hn hf hc hd (by omega) hmm t0 t2 s14 hw hcs hcd, bs, nI_1]
    rw [cntB] at h2
    have e : tinP (kwB wn cd n c d h f) mm f j k = (fewP (kwB wn cd n c d h f) mm k && k.testBit j) := by unfold tinP; rw [hjb]; rfl
    rw [e] at h2
    by_cases h3 : k.testBit j = true
    · rw [if_pos h3, if_neg (by decide)]
      by_cases h1 : fewP (kwB wn cd n c d h f) mm k = true
      · rw [h1, if_neg (show ¬ b2 true = 0 by decide), nI_1]
        rw [h1, h3, if_pos (show (true && true) = true from rfl)] at h2
        exact h2
      · have h1' : fewP (kwB wn cd n c d h f) mm k = false := Bool.eq_false_iff.mpr h1
        rw [h1', if_pos (show b2 false = 0 by decide), Int32.add_zero]
        rw [h1', h3] at h2
        exact h2
    · have h3' : k.testBit j = false := Bool.eq_false_iff.mpr h3
      rw [if_neg h3, if_pos rfl, Int32.add_zero]
      rw [h3', Bool.and_false] at h2
      exact h2
theorem p_ff3 {n c d f mm : Nat} (hn : n ≤ 7) (hf : f < n) (hc : c ≤ 6) (hd : d < 1024) (hmm : mm ≤ 8) {told st : Nat → Int32} {wn cd h : Nat → Nat} (t0 : told 0 = nI n) (t2 : told 2 = nI c) (s14 : st 14 = nI d) (hw : ∀ k, k < n → told (10 + k) = nI (wn k) ∧ wn k ≤ 9) (hcs : ∀ j, j < c → told (31 + j) = nI (cd j)) (hcd : ∀ j, cd j ≤ 40) (sN : Nat) (hsN : sN ≤ 128) (ls : Int32) {t : Nat → Nat} (ht : ∀ k, t k ≤ 128) (hte : ∀ j, t j = cntB (tinP (kwB wn cd n c d h f) mm f j) (aset n h + 1)) : ∀ (m k F : Nat), k + m = n → m < F → f_X9_findFewest_b146 told st F (nI f) (nI (aset n h)) (nI (inF t k).1) (nI k) (nI mm) (nI sN) ls (nI (inF t k).2) = some (if sN = 0 then 0 else 1, nI mm, nI sN, ls, nI (inF t n).2) := by
  have hp : 2 ^ n ≤ 2 ^ 7 := Nat.pow_le_pow_right (by decide) hn
  have hal : aset n h < 2 ^ n := setOf_lt _ n
  intro m
  induction m with
  | zero =>
    intro k F hk hF
    obtain ⟨F, rfl⟩ : ∃ F', F = F' + 1 := ⟨F - 1, by omega⟩
    obtain rfl : k = n := by omega
    show f_X9_findFewest_s146 told st (f_X9_findFewest_b146 told st F) _ _ _ _ _ _ _ _ = _
    unfold f_X9_findFewest_s146
    rw [t0, if_pos (nI_le (Nat.le_refl _) (by omega))]
    by_cases h0 : sN = 0
    · subst h0; rfl
    · rw [if_neg (nI_nle (by omega) (by omega)), if_neg h0]
  | succ m ih =>
    intro k F hk hF
    obtain ⟨F, rfl⟩ : ∃ F', F = F' + 1 := ⟨F - 1, by omega⟩
    have h2 := ih (k + 1) F (by omega) (by omega)
    show f_X9_findFewest_s146 told st (f_X9_findFewest_b146 told st F) _ _ _ _ _ _ _ _ = _
    unfold f_X9_findFewest_s146
    rw [t0, if_neg (nI_ge (by omega) (by omega))]
    have hin : f_X9_findFewest_b163 told st (f_X9_findFewest_b146 told st F) 5000 (nI f) (nI (aset n h)) (nI (inF t k).1) (nI k) 0 0 (nI mm) (nI sN) ls (nI (inF t k).2) = f_X9_findFewest_b212 told st (f_X9_findFewest_b146 told st F) (nI f) (nI (aset n h)) (nI (inF t k).1) (nI k) (nI (t k)) (nI mm) (nI sN) ls (nI (inF t k).2) := by
      by_cases hkf : k = f
      · have e0 : t k = 0 := by rw [hte k]; exact cntB_zero _ (fun s hs => by unfold tinP; simp [hkf])
        rw [e0]
        show f_X9_findFewest_s163 told st (f_X9_findFewest_b146 told st F) (f_X9_findFewest_b163 told st (f_X9_findFewest_b146 told st F) 4999) _ _ _ _ _ _ _ _ _ _ = _
        unfold f_X9_findFewest_s163
        rw [hkf, if_pos rfl, nI_0]
        split <;> rfl
      · rw [hte k]
        exact p_ff3i hn hf (by omega) hc hd hmm t0 t2 s14 hw hcs hcd (f_X9_findFewest_b146 told st F) _ _ _ _ hkf (aset n h + 1) 0 5000 (by omega) (by omega)
    rw [hin]
    obtain ⟨b1, b2', b3⟩ := inF_b ht k
    have htk := ht k
    have hpk : 0 < 2 ^ k := Nat.pos_of_ne_zero (by simp)
    unfold f_X9_findFewest_b212 f_X9_findFewest_b226 f_X9_findFewest_b245
    rw [nI_1]
    rw [inF] at h2
    by_cases h1 : (inF t k).1 < t k
    · rw [if_neg (nI_ge h1 (by omega)), if_pos rfl]
      rw [if_pos h1] at h2
      have e : (0 : Int32) ||| ((1 : Int32) <<< (nI k &&& 31)) = nI (2 ^ k) := by
        have := p_or1 k (by omega) 0 hpk
        rw [nI_0, Nat.zero_add] at this
        exact this
      rw [e]
      exact h2
    · rw [if_pos (nI_le (by omega) (by omega))]
      rw [if_neg h1] at h2
      by_cases h3 : t k = (inF t k).1
      · rw [if_pos (by rw [h3]), p_or1 k (by omega) _ b3]
        rw [if_pos h3] at h2
        exact h2
      · rw [if_neg (fun q => h3 ((nI_eq (by omega) (by omega)).mp q)), p_or0]
        rw [if_neg h3] at h2
        exact h2
theorem q_fewest {n q c d : Nat} {wn cd h : Nat → Nat} {lt lk : Nat → Nat → Bool} {fam quota cc date frozen : Int32} {kinds warmths prices tfav colds told healths fav st : Nat → Int32} (T : TOR n q c wn cd lt fam quota cc kinds warmths prices tfav colds told) (Wi : WIR n d h lk date frozen healths fav st) (a1 a2 a3 : Int32) (ti : Nat → Int32) (m1 m2 m3 m4 x p : Int32) : ∃ r b1 b2 b3 ti' k1 k2 k3 k4, f_X8_fewest fam cc date frozen a1 a2 a3 colds warmths ti x p = some (r, b1, b2, b3, ti') ∧ f_X9_fewest m1 m2 m3 m4 told st x p = some (r, k1, k2, k3, k4) := by
  obtain ⟨hn, hq, hc, ⟨rfl, rfl, rfl⟩, ⟨t0, t1, t2⟩, tk, tw, tp, tc, hw, hkd, hcs, hcd, hF, hL⟩ := T
  obtain ⟨hd, rfl, s14, rfl, hh, hs, hb, hz, wF, wL, hlk⟩ := Wi
  have hp : 2 ^ n ≤ 2 ^ 7 := Nat.pow_le_pow_right (by decide) hn
  have hp1 : 0 < 2 ^ n := Nat.pos_of_ne_zero (by simp)
  unfold f_X8_fewest f_X9_fewest
  rcases p_fam hn t0 x with ⟨f, hf, rfl, e8, e9⟩ | ⟨-, e8, e9⟩
  · rw [e9, bs, if_neg (show ¬ (1 : Int32) = 0 by decide)]
    rcases p_rng (hi := 3) (by decide) p with ⟨k, hk, hpk, h1, h2, h9⟩ | ⟨ho, h9⟩
    · have h9' : f_X9_in (Int32.toInt64 p) 0 3 = some 1 := h9
      rw [h9', bs, if_neg (show ¬ (1 : Int32) = 0 by decide), p_refusal hn hf h h1 (show p ≤ 3 from h2) e8, bs, p_isFrozen9 (by omega) (hs f (by omega)) (hb f), bs]
      by_cases hz' : h f = 0
      · rw [if_pos hz', if_neg (by decide), if_pos hz', if_neg (by decide)]
        exact ⟨_, _, _, _, _, _, _, _, _, rfl, rfl⟩
      · have hal : aset n h < 2 ^ n := setOf_lt _ n
        have hw9 : ∀ k, k < n → told (10 + k) = nI (wn k) ∧ wn k ≤ 9 := fun k hk => by rw [tw k (by omega)]; exact hw k hk
        have hc9 : ∀ j, j < c → told (31 + j) = nI (cd j) := fun j hj => by rw [tc j (by omega)]; exact hcs j hj
        rw [if_neg hz', if_pos rfl, if_neg hz', if_pos rfl]
        obtain ⟨fm', st', ls', ti', e, R⟩ := p_search (h := h) hn hf hc (show d < 1024 by omega) hw hcs hcd a1 a2 a3 ti
        rw [e, bd4s]
        obtain ⟨rfl, rfl, rfl, hti⟩ := R
        have hBo : ∀ s, aset n h + 1 ≤ s → kwB wn cd n c d h f s = false := fun s hs' => by
          unfold kwB
          rw [decide_eq_false]
          · rfl
          · intro q
            have : s &&& aset n h ≤ aset n h := Nat.and_le_right
            omega
        have hmB : minF (kwB wn cd n c d h f) (2 ^ n) = minF (kwB wn cd n c d h f) (aset n h + 1) := by
          have := minF_more hBo (2 ^ n - (aset n h + 1))
          rwa [show aset n h + 1 + (2 ^ n - (aset n h + 1)) = 2 ^ n by omega] at this
        have hPo : ∀ mm s, aset n h + 1 ≤ s → fewP (kwB wn cd n c d h f) mm s = false := fun mm s hs' => by unfold fewP; rw [hBo s hs']; rfl
        have hcP : ∀ mm, cntB (fewP (kwB wn cd n c d h f) mm) (2 ^ n) = cntB (fewP (kwB wn cd n c d h f) mm) (aset n h + 1) := fun mm => by
          have := cntB_more (hPo mm) (2 ^ n - (aset n h + 1))
          rwa [show aset n h + 1 + (2 ^ n - (aset n h + 1)) = 2 ^ n by omega] at this
        have hfP : ∀ mm, firstF (fewP (kwB wn cd n c d h f) mm) (2 ^ n) = firstF (fewP (kwB wn cd n c d h f) mm) (aset n h + 1) := fun mm => by
          have := firstF_more (hPo mm) (2 ^ n - (aset n h + 1))
          rwa [show aset n h + 1 + (2 ^ n - (aset n h + 1)) = 2 ^ n by omega] at this
        have hcT : ∀ mm j, cntB (tinP (kwB wn cd n c d h f) mm f j) (2 ^ n) = cntB (tinP (kwB wn cd n c d h f) mm f j) (aset n h + 1) := fun mm j => by
          have := cntB_more (P := tinP (kwB wn cd n c d h f) mm f j) (a := aset n h + 1) (fun s hs' => by unfold tinP; rw [hPo mm s hs']; rfl) (2 ^ n - (aset n h + 1))
          rwa [show aset n h + 1 + (2 ^ n - (aset n h + 1)) = 2 ^ n by omega] at this
        have h8 := minF_le8 (kwB wn cd n c d h f) (2 ^ n)
        have hcle := cntB_le (P := fewP (kwB wn cd n c d h f) (minF (kwB wn cd n c d h f) (2 ^ n))) (2 ^ n)
        have ht : ∀ j, cntB (tinP (kwB wn cd n c d h f) (minF (kwB wn cd n c d h f) (2 ^ n)) f j) (2 ^ n) ≤ 128 := fun j => Nat.le_trans (cntB_le _) (by omega)
        have b : f_X9_findFewest m1 m2 m3 m4 told st (nI f) = some (if cntB (fewP (kwB wn cd n c d h f) (minF (kwB wn cd n c d h f) (2 ^ n))) (2 ^ n) = 0 then 0 else 1, nI (minF (kwB wn cd n c d h f) (2 ^ n)), nI (cntB (fewP (kwB wn cd n c d h f) (minF (kwB wn cd n c d h f) (2 ^ n))) (2 ^ n)), oN (firstF (fewP (kwB wn cd n c d h f) (minF (kwB wn cd n c d h f) (2 ^ n))) (2 ^ n)) m3, nI (inF (fun j => cntB (tinP (kwB wn cd n c d h f) (minF (kwB wn cd n c d h f) (2 ^ n)) f j) (2 ^ n)) n).2) := by
          unfold f_X9_findFewest
          rw [p_alive hn t0 hs hb, bs]
          have l1 := p_ff1 (h := h) hn hf hc (show d < 1024 by omega) t0 t2 s14 hw9 hc9 hcd m2 m3 m4 (aset n h + 1) 0 5000 (by omega) (by omega)
          refine Eq.trans l1 ?_
          rw [← hmB]
          have l2 := p_ff2 (h := h) hn hf hc (show d < 1024 by omega) h8 t0 t2 s14 hw9 hc9 hcd (aset n h + 1) 5000 0 m3 (by omega) (by omega)
          rw [nI_pred] at l2
          refine Eq.trans l2 ?_
          rw [← hcP, ← hfP, Nat.zero_add]
          exact p_ff3 (h := h) hn hf hc (show d < 1024 by omega) h8 t0 t2 s14 hw9 hc9 hcd _ (by omega) _ ht (fun j => hcT _ j) n 0 5000 (by omega) (by omega)
        rw [b, bd5s]
        by_cases h0 : cntB (fewP (kwB wn cd n c d h f) (minF (kwB wn cd n c d h f) (2 ^ n))) (2 ^ n) = 0
        · rw [if_pos h0, if_pos rfl, h0, nI_0, if_pos rfl]
          exact ⟨_, _, _, _, _, _, _, _, _, rfl, rfl⟩
        · rw [if_neg h0, if_neg (nI_ne0 (by omega) (by omega)), if_neg (show ¬ (1 : Int32) = 0 by decide)]
          have hsome := cntB_pos _ (show 0 < cntB (fewP (kwB wn cd n c d h f) (minF (kwB wn cd n c d h f) (2 ^ n))) (2 ^ n) by omega)
          have hoN : ∀ x y, oN (firstF (fewP (kwB wn cd n c d h f) (minF (kwB wn cd n c d h f) (2 ^ n))) (2 ^ n)) x = oN (firstF (fewP (kwB wn cd n c d h f) (minF (kwB wn cd n c d h f) (2 ^ n))) (2 ^ n)) y := fun x y => by
            cases hq' : firstF (fewP (kwB wn cd n c d h f) (minF (kwB wn cd n c d h f) (2 ^ n))) (2 ^ n) with
            | none => rw [hq'] at hsome; cases hsome
            | some s => rfl
          have hlt8 : minF (kwB wn cd n c d h f) (2 ^ n) < 8 := by
            refine Nat.lt_of_le_of_ne h8 (fun q => h0 ?_)
            rw [q]
            refine cntB_zero _ (fun s hs' => ?_)
            have := pcn_le s (by omega)
            unfold fewP
            have : (pcn s == 8) = false := by simp; omega
            rw [this, Bool.and_false]
          have hin := p_inMost ht (hti hlt8)
          have hout : ∀ k, n ≤ k → cntB (tinP (kwB wn cd n c d h f) (minF (kwB wn cd n c d h f) (2 ^ n)) f k) (2 ^ n) = 0 := fun k hk => cntB_zero _ (fun s hs' => by
            have : s.testBit k = false := Nat.testBit_lt_two_pow (Nat.lt_of_lt_of_le hs' (Nat.pow_le_pow_right (by decide) hk))
            unfold tinP
            rw [this, Bool.and_false, Bool.and_false])
          have h7 := inF_more ht hout (7 - n)
          rw [show n + (7 - n) = 7 by omega] at h7
          rw [hin, bs, h7, hoN a3 m3]
          by_cases y0 : p = 0
          · rw [if_pos y0, if_pos y0]; exact ⟨_, _, _, _, _, _, _, _, _, rfl, rfl⟩
          rw [if_neg y0, if_neg y0]
          by_cases y1 : p = 1
          · rw [if_pos y1, if_pos y1]; exact ⟨_, _, _, _, _, _, _, _, _, rfl, rfl⟩
          rw [if_neg y1, if_neg y1]
          by_cases y2 : p = 2
          · rw [if_pos y2, if_pos y2]; exact ⟨_, _, _, _, _, _, _, _, _, rfl, rfl⟩
          rw [if_neg y2, if_neg y2]
          exact ⟨_, _, _, _, _, _, _, _, _, rfl, rfl⟩
    · have h9' : f_X9_in (Int32.toInt64 p) 0 3 = some 0 := h9
      rw [h9', p_refO (x3 := 3) ho e8]
      exact ⟨_, _, _, _, _, _, _, _, _, rfl, rfl⟩
  · rw [p_refU e8, e9]
    exact ⟨_, _, _, _, _, _, _, _, _, rfl, rfl⟩
