def minF (B : Nat → Bool) : Nat → Nat
  | 0 => 8
  | k + 1 => if B k && decide (pcn k < minF B k) then pcn k else minF B k
def fewP (B : Nat → Bool) (m s : Nat) : Bool := B s && (pcn s == m)
def firstF (P : Nat → Bool) : Nat → Option Nat
  | 0 => none
  | k + 1 => if (firstF P k).isSome then firstF P k else if P k then some k else none
def tinP (B : Nat → Bool) (m f j s : Nat) : Bool := fewP B m s && (!(j == f) && s.testBit j)
theorem minF_le8 (B : Nat → Bool) : ∀ k, minF B k ≤ 8 := by
  intro k
  induction k with
  | zero => exact Nat.le_refl _
  | succ k ih =>
    rw [minF]
    split
    · rename_i h; simp at h; omega
    · exact ih
theorem minF_le {B : Nat → Bool} : ∀ k s, s < k → B s = true → minF B k ≤ pcn s := by
  intro k
  induction k with
  | zero => intro s h; omega
  | succ k ih =>
    intro s hs hb
    rw [minF]
    by_cases e : s = k
    · subst e
      split
      · exact Nat.le_refl _
      · rename_i h; simp [hb] at h; exact h
    · have := ih s (by omega) hb
      split
      · rename_i h; simp at h; omega
      · exact this
theorem cntB_zero {P : Nat → Bool} : ∀ k, (∀ s, s < k → P s = false) → cntB P k = 0 := by
  intro k
  induction k with
  | zero => intro _; rfl
  | succ k ih => intro h; rw [cntB, ih (fun s hs => h s (by omega)), h k (by omega)]; simp
theorem firstF_none {P : Nat → Bool} : ∀ k, (∀ s, s < k → P s = false) → firstF P k = none := by
  intro k
  induction k with
  | zero => intro _; rfl
  | succ k ih => intro h; rw [firstF, ih (fun s hs => h s (by omega)), h k (by omega)]; simp
theorem cntB_le {P : Nat → Bool} : ∀ k, cntB P k ≤ k := by
  intro k
  induction k with
  | zero => exact Nat.le_refl _
  | succ k ih => rw [cntB]; split <;> omega
theorem cntB_more {P : Nat → Bool} {a : Nat} (h : ∀ s, a ≤ s → P s = false) : ∀ m, cntB P (a + m) = cntB P a := by
  intro m
  induction m with
  | zero => rfl
  | succ m ih =>
    show cntB P (a + m + 1) = _
    rw [cntB, ih, h (a + m) (by omega)]; simp
theorem firstF_more {P : Nat → Bool} {a : Nat} (h : ∀ s, a ≤ s → P s = false) : ∀ m, firstF P (a + m) = firstF P a := by
  intro m
  induction m with
  | zero => rfl
  | succ m ih =>
    show firstF P (a + m + 1) = _
    rw [firstF, ih, h (a + m) (by omega)]
    cases firstF P a <;> simp
theorem minF_more {B : Nat → Bool} {a : Nat} (h : ∀ s, a ≤ s → B s = false) : ∀ m, minF B (a + m) = minF B a := by
  intro m
  induction m with
  | zero => rfl
  | succ m ih =>
    show minF B (a + m + 1) = _
    rw [minF, ih, h (a + m) (by omega)]; simp
theorem firstF_lt {P : Nat → Bool} : ∀ k s, firstF P k = some s → s < k := by
  intro k
  induction k with
  | zero => intro s h; cases h
  | succ k ih =>
    intro s h
    rw [firstF] at h
    split at h
    · have := ih s h; omega
    · split at h
      · cases h; omega
      · cases h
theorem cntB_pos {P : Nat → Bool} : ∀ k, 0 < cntB P k → (firstF P k).isSome = true := by
  intro k
  induction k with
  | zero => intro h; exact absurd h (Nat.lt_irrefl 0)
  | succ k ih =>
    intro h
    rw [firstF]
    by_cases h1 : (firstF P k).isSome = true
    · rw [if_pos h1]; exact h1
    · rw [if_neg h1]
      rw [cntB] at h
      by_cases h2 : P k = true
      · rw [if_pos h2]; rfl
      · rw [if_neg h2] at h
        exact absurd (ih (by omega)) h1
def inF (t : Nat → Nat) : Nat → Nat × Nat
  | 0 => (1, 0)
  | k + 1 => if (inF t k).1 < t k then (t k, 2 ^ k) else if t k = (inF t k).1 then ((inF t k).1, (inF t k).2 + 2 ^ k) else inF t k
theorem inF_b {t : Nat → Nat} (ht : ∀ k, t k ≤ 128) : ∀ k, 1 ≤ (inF t k).1 ∧ (inF t k).1 ≤ 128 ∧ (inF t k).2 < 2 ^ k := by
  intro k
  induction k with
  | zero => exact ⟨Nat.le_refl _, by show (1 : Nat) ≤ 128; decide, by show (0 : Nat) < 1; decide⟩
  | succ k ih =>
    obtain ⟨h1, h2, h3⟩ := ih
    have := ht k
    have hp : 0 < 2 ^ k := Nat.pos_of_ne_zero (by simp)
    have e : 2 ^ (k + 1) = 2 ^ k * 2 := Nat.pow_succ 2 k
    rw [inF]
    split
    · exact ⟨by show 1 ≤ t k; omega, this, by show 2 ^ k < 2 ^ (k + 1); omega⟩
    · split
      · exact ⟨h1, h2, by show (inF t k).2 + 2 ^ k < 2 ^ (k + 1); omega⟩
      · exact ⟨h1, h2, by omega⟩
theorem inF_more {t : Nat → Nat} (ht : ∀ k, t k ≤ 128) {a : Nat} (h : ∀ k, a ≤ k → t k = 0) : ∀ m, inF t (a + m) = inF t a := by
  intro m
  induction m with
  | zero => rfl
  | succ m ih =>
    have := (inF_b ht a).1
    show inF t (a + m + 1) = _
    rw [inF, ih, h (a + m) (by omega), if_neg (by omega), if_neg (by omega)]
theorem p_with1' : ∀ k, k < 7 → ∀ a, a < 2 ^ k → f_X8_with (nI a) (nI k) 1 = some (nI (a + 2 ^ k)) := by decide +kernel
theorem p_with0' : ∀ k, k < 7 → ∀ a, a < 2 ^ k → f_X8_with (nI a) (nI k) 0 = some (nI a) := by decide +kernel
theorem p_inMost_loop {t : Nat → Nat} (ht : ∀ k, t k ≤ 128) {ti : Nat → Int32} (hti : ∀ j, j < 7 → ti j = nI (t j)) : ∀ (m k F : Nat), k + m = 7 → m < F → f_X4_inMost_b6 ti F (nI (inF t k).1) (nI (inF t k).2) (nI k) = some (nI (inF t 7).2) := by
  intro m
  induction m with
  | zero =>
    intro k F hk hF
    obtain ⟨F, rfl⟩ : ∃ F', F = F' + 1 := ⟨F - 1, by omega⟩
    obtain rfl : k = 7 := by omega
    show f_X4_inMost_s6 ti (f_X4_inMost_b6 ti F) (nI (inF t 7).1) (nI (inF t 7).2) (nI 7) = _
    unfold f_X4_inMost_s6
    rw [if_pos (show (7 : Int32) ≤ nI 7 by decide)]
  | succ m ih =>
    intro k F hk hF
    obtain ⟨F, rfl⟩ : ∃ F', F = F' + 1 := ⟨F - 1, by omega⟩
    show f_X4_inMost_s6 ti (f_X4_inMost_b6 ti F) _ _ _ = _
    unfold f_X4_inMost_s6 f_X4_inMost_b31 f_X4_inMost_b48
    have h2 := ih (k + 1) F (by omega) (by omega)
    obtain ⟨b1, b2', b3⟩ := inF_b ht k
    have htk := ht k
    have hp : 0 < 2 ^ k := Nat.pos_of_ne_zero (by simp)
    have e0 : (0 : Int32) = nI 0 := nI_0.symm
    rw [if_neg (show ¬ (7 : Int32) ≤ nI k from nI_ge (a := k) (b := 7) (by omega) (by omega))]
    simp only [gd_nI (show k < 7 by omega) (show 7 < 2 ^ 31 by decide), cl (show k < 2 ^ 31 by omega), hti k (by omega), nI_1]
    rw [inF] at h2
    by_cases h1 : (inF t k).1 < t k
    · rw [if_neg (nI_ge h1 (by omega)), if_pos True.intro, e0, p_with1' k (by omega) 0 hp, bs, Nat.zero_add]
      rw [if_pos h1] at h2
      exact h2
    · rw [if_pos (nI_le (by omega) (by omega))]
      rw [if_neg h1] at h2
      by_cases h3 : t k = (inF t k).1
      · rw [if_pos (by rw [h3]), p_with1' k (by omega) _ b3, bs]
        rw [if_pos h3] at h2
        exact h2
      · rw [if_neg (fun q => h3 ((nI_eq (by omega) (by omega)).mp q)), p_with0' k (by omega) _ b3, bs]
        rw [if_neg h3] at h2
        exact h2
theorem p_inMost {t : Nat → Nat} (ht : ∀ k, t k ≤ 128) {ti : Nat → Int32} (hti : ∀ j, j < 7 → ti j = nI (t j)) : f_X4_inMost ti = some (nI (inF t 7).2) := p_inMost_loop ht hti 7 0 5000 (by omega) (by omega)
theorem p_fill_loop : ∀ (m k F : Nat) (ti : Nat → Int32), k + m = 7 → m < F → ∃ ti', f_J7_fill_53178_b5 F 0 (nI k) 7 ti = some ti' ∧ ∀ j, ti' j = if k ≤ j ∧ j < 7 then 0 else ti j := by
  intro m
  induction m with
  | zero =>
    intro k F ti hk hF
    obtain ⟨F, rfl⟩ : ∃ F', F = F' + 1 := ⟨F - 1, by omega⟩
    obtain rfl : k = 7 := by omega
    refine ⟨ti, ?_, fun j => by rw [if_neg (by omega)]⟩
    show f_J7_fill_53178_s5 (f_J7_fill_53178_b5 F) 0 (nI 7) 7 ti = _
    unfold f_J7_fill_53178_s5
    rw [if_pos (show (7 : Int32) ≤ nI 7 by decide)]
  | succ m ih =>
    intro k F ti hk hF
    obtain ⟨F, rfl⟩ : ∃ F', F = F' + 1 := ⟨F - 1, by omega⟩
    obtain ⟨ti', e1, e2⟩ := ih (k + 1) F (upd ti k 0) (by omega) (by omega)
    refine ⟨ti', ?_, fun j => ?_⟩
    · show f_J7_fill_53178_s5 (f_J7_fill_53178_b5 F) 0 (nI k) 7 ti = _
      unfold f_J7_fill_53178_s5
      rw [if_neg (show ¬ (7 : Int32) ≤ nI k from nI_ge (a := k) (b := 7) (by omega) (by omega)), gd_nI (by omega) (by omega), cl (by omega), nI_1]
      exact e1
    · rw [e2 j]
      by_cases hj : j = k
      · subst hj
        rw [if_neg (by omega), if_pos (by omega), pk_us]
      · rw [pk_un hj]
        by_cases q : k + 1 ≤ j ∧ j < 7
        · rw [if_pos q, if_pos (by omega)]
        · rw [if_neg q, if_neg (by omega)]
theorem p_fill (ti : Nat → Int32) : ∃ ti', f_J7_fill_53178 ti 0 = some ti' ∧ ∀ j, j < 7 → ti' j = 0 := by
  obtain ⟨ti', e1, e2⟩ := p_fill_loop 7 0 5000 ti (by omega) (by omega)
  exact ⟨ti', e1, fun j hj => by rw [e2 j, if_pos (by omega)]⟩
theorem p_take_loop {s f : Nat} (hs : s < 128) (hf : f < 7) (fm st ls : Int32) : ∀ (m k F : Nat) (ti : Nat → Int32), k + m = 7 → m < F → ∃ ti', f_X4_take_b49 F (nI s) (nI f) (nI k) fm st ls ti = some (fm, st, ls, ti') ∧ ∀ j, ti' j = if k ≤ j ∧ j < 7 ∧ j ≠ f ∧ s.testBit j = true then ti j + 1 else ti j := by
  intro m
  induction m with
  | zero =>
    intro k F ti hk hF
    obtain ⟨F, rfl⟩ : ∃ F', F = F' + 1 := ⟨F - 1, by omega⟩
    obtain rfl : k = 7 := by omega
    refine ⟨ti, ?_, fun j => by rw [if_neg (by omega)]⟩
    show f_X4_take_s49 (f_X4_take_b49 F) (nI s) (nI f) (nI 7) fm st ls ti = _
    unfold f_X4_take_s49
    rw [if_pos (show (7 : Int32) ≤ nI 7 by decide)]
  | succ m ih =>
    intro k F ti hk hF
    obtain ⟨F, rfl⟩ : ∃ F', F = F' + 1 := ⟨F - 1, by omega⟩
    show ∃ ti', f_X4_take_s49 (f_X4_take_b49 F) _ _ _ _ _ _ _ = _ ∧ _
    unfold f_X4_take_s49 f_X4_take_b82
    rw [if_neg (show ¬ (7 : Int32) ≤ nI k from nI_ge (a := k) (b := 7) (by omega) (by omega)), p_holds s (by omega) k (by omega), bs, gd_nI (by omega) (by omega), gd_nI (by omega) (by omega), cl (by omega), nI_1]
    by_cases h1 : k = f
    · obtain ⟨ti', e1, e2⟩ := ih (k + 1) F ti (by omega) (by omega)
      rw [if_pos (by rw [h1])]
      refine ⟨ti', e1, fun j => ?_⟩
      rw [e2 j]
      by_cases hj : j = k
      · rw [if_neg (by omega), if_neg (by intro q; exact q.2.2.1 (by omega))]
      · by_cases q : k + 1 ≤ j ∧ j < 7 ∧ j ≠ f ∧ s.testBit j = true
        · rw [if_pos q, if_pos ⟨by omega, q.2⟩]
        · rw [if_neg q, if_neg (fun q' => q ⟨by omega, q'.2⟩)]
    · rw [if_neg (fun q => h1 ((nI_eq (by omega) (by omega)).mp q))]
      by_cases h2 : s.testBit k = true
      · obtain ⟨ti', e1, e2⟩ := ih (k + 1) F (upd ti k (ti k + 1)) (by omega) (by omega)
        rw [if_pos h2, if_neg (by decide)]
        refine ⟨ti', e1, fun j => ?_⟩
        rw [e2 j]
        by_cases hj : j = k
        · subst hj
          rw [if_neg (by omega), if_pos ⟨Nat.le_refl _, by omega, h1, h2⟩, pk_us]
        · rw [pk_un hj]
          by_cases q : k + 1 ≤ j ∧ j < 7 ∧ j ≠ f ∧ s.testBit j = true
          · rw [if_pos q, if_pos ⟨by omega, q.2⟩]
          · rw [if_neg q, if_neg (fun q' => q ⟨by omega, q'.2⟩)]
      · obtain ⟨ti', e1, e2⟩ := ih (k + 1) F ti (by omega) (by omega)
        rw [if_neg h2, if_pos rfl]
        refine ⟨ti', e1, fun j => ?_⟩
        rw [e2 j]
        by_cases hj : j = k
        · subst hj
          rw [if_neg (by omega), if_neg (by intro q; exact h2 q.2.2.2)]
        · by_cases q : k + 1 ≤ j ∧ j < 7 ∧ j ≠ f ∧ s.testBit j = true
          · rw [if_pos q, if_pos ⟨by omega, q.2⟩]
          · rw [if_neg q, if_neg (fun q' => q ⟨by omega, q'.2⟩)]
def oN (b : Option Nat) (x : Int32) : Int32 := match b with
  | none => x
  | some s => nI s
def FWR (B : Nat → Bool) (f k : Nat) (l0 fm st ls : Int32) (ti : Nat → Int32) : Prop := fm = nI (minF B k) ∧ st = nI (cntB (fewP B (minF B k)) k) ∧ ls = oN (firstF (fewP B (minF B k)) k) l0 ∧ (minF B k < 8 → ∀ j, j < 7 → ti j = nI (cntB (tinP B (minF B k) f j) k))
theorem p_take {B : Nat → Bool} {f k : Nat} (hf : f < 7) (hk : k < 128) (hB : B k = true) (hle : pcn k ≤ minF B k) {l0 fm st ls : Int32} {ti : Nat → Int32} (R : FWR B f k l0 fm st ls ti) : ∃ fm' st' ls' ti', f_X4_take fm st ls ti (nI k) (nI f) = some (fm', st', ls', ti') ∧ FWR B f (k + 1) l0 fm' st' ls' ti' := by
  obtain ⟨rfl, rfl, rfl, hti⟩ := R
  have h8 := minF_le8 B k
  have hpk := pcn_le k hk
  unfold f_X4_take f_X4_take_b36
  rw [p_bitCount k hk, bs]
  by_cases hlt : pcn k < minF B k
  · have hm : minF B (k + 1) = pcn k := by rw [minF, hB]; simp [hlt]
    have hz : ∀ s, s < k → fewP B (pcn k) s = false := by
      intro s hs
      unfold fewP
      cases hb : B s with
      | false => rfl
      | true =>
        have := minF_le k s hs hb
        simp; omega
    have hfk : fewP B (pcn k) k = true := by unfold fewP; simp [hB]
    obtain ⟨t0, e0, z0⟩ := p_fill ti
    obtain ⟨ti', e1, e2⟩ := p_take_loop hk hf (nI (pcn k)) (0 + 1) (nI k) 7 0 5000 t0 (by omega) (by omega)
    rw [if_neg (nI_ge hlt (by omega)), e0, bs]
    refine ⟨_, _, _, ti', e1, ?_⟩
    unfold FWR
    rw [hm]
    refine ⟨rfl, ?_, ?_, fun _ j hj => ?_⟩
    · rw [cntB, cntB_zero k hz, hfk]; rfl
    · rw [firstF, firstF_none k hz, hfk]; rfl
    · have hz2 : cntB (tinP B (pcn k) f j) k = 0 := cntB_zero k (fun s hs => by unfold tinP; rw [hz s hs]; rfl)
      rw [e2 j, z0 j hj, cntB, hz2]
      have e : tinP B (pcn k) f j k = (!(j == f) && k.testBit j) := by unfold tinP; rw [hfk]; rfl
      rw [e]
      by_cases q : j ≠ f ∧ k.testBit j = true
      · have q1 : (j == f) = false := by simp [q.1]
        rw [if_pos ⟨Nat.zero_le _, hj, q⟩, q1, q.2]; rfl
      · rw [if_neg (fun q' => q q'.2.2), if_neg]
        · rfl
        · intro q2
          simp at q2
          exact q q2
  · have hm : minF B (k + 1) = minF B k := by rw [minF, hB]; simp [hlt]
    have he : pcn k = minF B k := by omega
    have hfk : fewP B (minF B k) k = true := by unfold fewP; simp [hB, he]
    obtain ⟨ti', e1, e2⟩ := p_take_loop hk hf (nI (minF B k)) (nI (cntB (fewP B (minF B k)) k) + 1) (oN (firstF (fewP B (minF B k)) k) l0) 7 0 5000 ti (by omega) (by omega)
    rw [if_pos (nI_le (by omega) (by omega))]
    refine ⟨_, _, _, ti', e1, ?_⟩
    unfold FWR
    rw [hm]
    refine ⟨rfl, ?_, ?_, fun h9 j hj => ?_⟩
    · rw [cntB, hfk, nI_1]; rfl
    · have hlt8 : minF B k < 8 := by omega
      have hpos : (firstF (fewP B (minF B k)) k).isSome = true := by
        have key : ∀ k, minF B k < 8 → (firstF (fewP B (minF B k)) k).isSome = true := by
          intro k
          induction k with
          | zero => intro h; exact absurd h (Nat.lt_irrefl 8)
          | succ k ih =>
            intro h
            rw [firstF]
            by_cases h1 : (B k && decide (pcn k < minF B k)) = true
            · have hmm : minF B (k + 1) = pcn k := by rw [minF, if_pos h1]
              rw [hmm]
              have : fewP B (pcn k) k = true := by unfold fewP; simp at h1; simp [h1.1]
              rw [this]
              by_cases h2 : (firstF (fewP B (pcn k)) k).isSome = true
              · rw [if_pos h2]; exact h2
              · rw [if_neg h2]; rfl
            · have hmm : minF B (k + 1) = minF B k := by rw [minF, if_neg h1]
              rw [hmm] at h ⊢
              rw [if_pos (ih h)]; exact ih h
        exact key k hlt8
      rw [firstF, if_pos hpos]
    · rw [e2 j, hti h9 j hj, cntB]
      have e : tinP B (minF B k) f j k = (!(j == f) && k.testBit j) := by unfold tinP; rw [hfk]; rfl
      rw [e]
      by_cases q : j ≠ f ∧ k.testBit j = true
      · have q1 : (j == f) = false := by simp [q.1]
        rw [if_pos ⟨Nat.zero_le _, hj, q⟩, q1, q.2, nI_1]; rfl
      · rw [if_neg (fun q' => q q'.2.2), if_neg]
        · rfl
        · intro q2
          simp at q2
          exact q q2
theorem FWR_skip {B : Nat → Bool} {f k : Nat} (hsk : B k = false ∨ minF B k < pcn k) {l0 fm st ls : Int32} {ti : Nat → Int32} (R : FWR B f k l0 fm st ls ti) : FWR B f (k + 1) l0 fm st ls ti := by
  have hm : minF B (k + 1) = minF B k := by
    rw [minF]
    rcases hsk with h | h
    · rw [h]; rfl
    · rw [if_neg]; intro q; simp at q; omega
  have hfk : fewP B (minF B k) k = false := by
    unfold fewP
    rcases hsk with h | h
    · rw [h]; rfl
    · cases hb : B k with
      | false => rfl
      | true => simp; omega
  obtain ⟨r1, r2, r3, r4⟩ := R
  unfold FWR
  rw [hm]
  refine ⟨r1, ?_, ?_, fun h9 j hj => ?_⟩
  · rw [r2, cntB, hfk]; rfl
  · rw [r3, firstF, hfk]
    cases firstF (fewP B (minF B k)) k <;> rfl
  · rw [r4 h9 j hj, cntB]
    unfold tinP
    rw [hfk]; rfl
