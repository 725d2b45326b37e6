def askO (x : Nat) : Option Nat := if x = 0 then none else some (x - 1)
theorem askI (x : Nat) : nI x - 1 = wrI (askO x) := by
  unfold askO
  cases x with
  | zero => rfl
  | succ x => rw [if_neg (by omega)]; exact nI_pred x
theorem askO_lt {x n : Nat} (hx : x < n + 1) : ∀ f, askO x = some f → f < n := by
  intro f h
  unfold askO at h
  split at h
  · cases h
  · have := Option.some.inj h; omega
def simT (nx : Nat → (Nat → Nat) → Option Nat → (Nat → Nat)) (B : Nat) : Nat → Nat → (Nat → Nat) → Nat → (Nat → Nat)
  | 0, _, H, _ => H
  | m + 1, d, H, r => simT nx B m (d + 1) (nx d H (askO (r / B ^ m % B))) r
theorem simT_mod (nx : Nat → (Nat → Nat) → Option Nat → (Nat → Nat)) {B : Nat} (hB : 0 < B) : ∀ m d H r a, simT nx B m d H (B ^ m * a + r) = simT nx B m d H r := by
  intro m
  induction m with
  | zero => intro d H r a; rfl
  | succ m ih =>
    intro d H r a
    have hp : 0 < B ^ m := Nat.pow_pos hB
    have e : B ^ (m + 1) * a + r = B ^ m * (B * a) + r := by rw [Nat.pow_succ, Nat.mul_assoc]
    rw [simT, simT, e, Nat.mul_add_div hp, Nat.mul_add_mod, ih]
def updA (acc : Nat × Nat × Nat) (f h r : Nat) : Nat × Nat × Nat := if f < acc.1 ∨ (f = acc.1 ∧ acc.2.1 < h) then (f, h, r) else acc
def linF (nx : Nat → (Nat → Nat) → Option Nat → (Nat → Nat)) (B : Nat) (fw hs : (Nat → Nat) → Nat) (m d : Nat) (H : Nat → Nat) (base : Nat) (acc : Nat × Nat × Nat) : Nat → Nat × Nat × Nat
  | 0 => acc
  | k + 1 => updA (linF nx B fw hs m d H base acc k) (fw (simT nx B m d H k)) (hs (simT nx B m d H k)) (base + k)
def domA (acc : Nat × Nat × Nat) (f h : Nat) : Prop := ¬ (f < acc.1 ∨ (f = acc.1 ∧ acc.2.1 < h))
theorem dom_upd {acc : Nat × Nat × Nat} {f h f' h' r : Nat} (D : domA acc f h) : domA (updA acc f' h' r) f h := by
  unfold domA updA at *
  split
  · show ¬ (f < f' ∨ (f = f' ∧ h' < h)); omega
  · exact D
theorem dom_self (acc : Nat × Nat × Nat) (f h r : Nat) : domA (updA acc f h r) f h := by
  unfold domA updA
  split
  · show ¬ (f < f ∨ (f = f ∧ h < h)); omega
  · rename_i q; exact q
theorem lin_keep {nx : Nat → (Nat → Nat) → Option Nat → (Nat → Nat)} {B : Nat} {fw hs : (Nat → Nat) → Nat} {m d : Nat} {H : Nat → Nat} {base : Nat} {acc : Nat × Nat × Nat} {f h : Nat} (D : domA acc f h) : ∀ k, domA (linF nx B fw hs m d H base acc k) f h := by
  intro k
  induction k with
  | zero => exact D
  | succ k ih => exact dom_upd ih
theorem lin_dom {nx : Nat → (Nat → Nat) → Option Nat → (Nat → Nat)} {B : Nat} {fw hs : (Nat → Nat) → Nat} {m d : Nat} {H : Nat → Nat} {base : Nat} {acc : Nat × Nat × Nat} : ∀ k j, j < k → domA (linF nx B fw hs m d H base acc k) (fw (simT nx B m d H j)) (hs (simT nx B m d H j)) := by
  intro k
  induction k with
  | zero => intro j h; omega
  | succ k ih =>
    intro j h
    by_cases e : j = k
    · subst e; exact dom_self _ _ _ _
    · exact dom_upd (ih j (by omega))
theorem lin_id {nx : Nat → (Nat → Nat) → Option Nat → (Nat → Nat)} {B : Nat} {fw hs : (Nat → Nat) → Nat} {m d : Nat} {H : Nat → Nat} {base : Nat} {acc : Nat × Nat × Nat} : ∀ k, (∀ j, j < k → domA acc (fw (simT nx B m d H j)) (hs (simT nx B m d H j))) → linF nx B fw hs m d H base acc k = acc := by
  intro k
  induction k with
  | zero => intro _; rfl
  | succ k ih =>
    intro h
    rw [linF, ih (fun j hj => h j (by omega))]
    unfold updA
    rw [if_neg (h k (by omega))]
theorem lin_split {nx : Nat → (Nat → Nat) → Option Nat → (Nat → Nat)} {B : Nat} (hB : 0 < B) {fw hs : (Nat → Nat) → Nat} {m d : Nat} {H : Nat → Nat} {base : Nat} {acc : Nat × Nat × Nat} {a : Nat} (ha : a < B) : ∀ j, j ≤ B ^ m → linF nx B fw hs (m + 1) d H base acc (B ^ m * a + j) = linF nx B fw hs m (d + 1) (nx d H (askO a)) (base + B ^ m * a) (linF nx B fw hs (m + 1) d H base acc (B ^ m * a)) j := by
  have hp : 0 < B ^ m := Nat.pow_pos hB
  intro j
  induction j with
  | zero => intro _; rfl
  | succ j ih =>
    intro hj
    show linF nx B fw hs (m + 1) d H base acc (B ^ m * a + j + 1) = _
    have e : (B ^ m * a + j) / B ^ m % B = a := by
      rw [Nat.mul_add_div hp, Nat.div_eq_of_lt (by omega), Nat.add_zero, Nat.mod_eq_of_lt ha]
    rw [linF, linF, ih (by omega), simT, e, simT_mod nx hB, Nat.add_assoc]
theorem lin_skip {nx : Nat → (Nat → Nat) → Option Nat → (Nat → Nat)} {B : Nat} (hB : 0 < B) {fw hs : (Nat → Nat) → Nat} {m d : Nat} {H : Nat → Nat} {base : Nat} {acc : Nat × Nat × Nat} {a : Nat} (ha : a < B) (h1 : 0 < a) (hnx : nx d H (askO a) = nx d H none) : linF nx B fw hs (m + 1) d H base acc (B ^ m * (a + 1)) = linF nx B fw hs (m + 1) d H base acc (B ^ m * a) := by
  have hp : 0 < B ^ m := Nat.pow_pos hB
  rw [Nat.mul_add, Nat.mul_one, lin_split hB ha (B ^ m) (Nat.le_refl _), hnx]
  apply lin_id
  intro j hj
  have hle : B ^ m * 1 ≤ B ^ m * a := Nat.mul_le_mul_left _ h1
  have := lin_dom (nx := nx) (B := B) (fw := fw) (hs := hs) (m := m + 1) (d := d) (H := H) (base := base) (acc := acc) (B ^ m * a) j (by omega)
  rw [simT, Nat.div_eq_of_lt hj, Nat.zero_mod] at this
  exact this
theorem lin_next {nx : Nat → (Nat → Nat) → Option Nat → (Nat → Nat)} {B : Nat} (hB : 0 < B) {fw hs : (Nat → Nat) → Nat} {m d : Nat} {H : Nat → Nat} {pre : Nat} {acc : Nat × Nat × Nat} {a : Nat} (ha : a < B) : linF nx B fw hs (m + 1) d H (pre * B ^ (m + 1)) acc (B ^ m * (a + 1)) = linF nx B fw hs m (d + 1) (nx d H (askO a)) ((pre * B + a) * B ^ m) (linF nx B fw hs (m + 1) d H (pre * B ^ (m + 1)) acc (B ^ m * a)) (B ^ m) := by
  have e : (pre * B + a) * B ^ m = pre * B ^ (m + 1) + B ^ m * a := by
    rw [Nat.add_mul, Nat.mul_assoc, Nat.pow_succ, Nat.mul_comm B (B ^ m), Nat.mul_comm a (B ^ m)]
  rw [e, Nat.mul_add, Nat.mul_one]
  exact lin_split hB ha (B ^ m) (Nat.le_refl _)
theorem pre_div {B pre a : Nat} (ha : a < B) (i : Nat) : (pre * B + a) / B ^ (i + 1) = pre / B ^ i := by
  have hB : 0 < B := by omega
  rw [Nat.pow_succ, Nat.mul_comm (B ^ i) B, ← Nat.div_div_eq_div_mul, Nat.mul_comm pre B, Nat.mul_add_div hB, Nat.div_eq_of_lt ha, Nat.add_zero]
theorem lin_b {nx : Nat → (Nat → Nat) → Option Nat → (Nat → Nat)} {B : Nat} {fw hs : (Nat → Nat) → Nat} {m d : Nat} {H : Nat → Nat} {base : Nat} {acc : Nat × Nat × Nat} (hf : ∀ G, fw G ≤ 7) : ∀ k, 0 < k → (linF nx B fw hs m d H base acc k).1 ≤ 7 := by
  intro k hk
  obtain ⟨k, rfl⟩ : ∃ j, k = j + 1 := ⟨k - 1, by omega⟩
  have h1 := lin_dom (nx := nx) (B := B) (fw := fw) (hs := hs) (m := m) (d := d) (H := H) (base := base) (acc := acc) (k + 1) k (by omega)
  have h2 := hf (simT nx B m d H k)
  unfold domA at h1
  omega
def ACR (B N : Nat) (acc : Nat × Nat × Nat) (few most : Int32) (best : Nat → Int32) : Prop := acc.1 ≤ 8 ∧ acc.2.1 ≤ 140 ∧ few = nI acc.1 ∧ most = nI acc.2.1 ∧ (acc.1 < 8 → ∀ k, k < N → best k = wrI (askO (acc.2.2 / B ^ (N - 1 - k) % B)))
def HB (n : Nat) (H : Nat → Nat) : Prop := (∀ k, H k ≤ 20) ∧ (∀ k, n ≤ k → H k = 0)
def fwT (n : Nat) (H : Nat → Nat) : Nat := pcn (zset n H)
def hsT (H : Nat → Nat) : Nat := hsum H 7
theorem fwT_le {n : Nat} (hn : n ≤ 7) (H : Nat → Nat) : fwT n H ≤ 7 := pcn_le _ (setOf_lt7 _ hn)
theorem hsT_le {H : Nat → Nat} (hb : ∀ k, H k ≤ 20) : hsT H ≤ 140 := by
  have : ∀ m, hsum H m ≤ 20 * m := by
    intro m
    induction m with
    | zero => exact Nat.le_refl _
    | succ m ih => rw [hsum]; have := hb m; omega
  exact this 7
theorem p_compare {n N r : Nat} (hn : n ≤ 7) (hN : N ≤ 4) {H : Nat → Nat} (hH : HB n H) {B : Nat} {acc : Nat × Nat × Nat} {few most frozen : Int32} {best askers healths : Nat → Int32} (hz : frozen = nI (zset n H)) (hh : ∀ k, k < 7 → healths k = nI (H k)) (ha : ∀ k, k < N → askers k = wrI (askO (r / B ^ (N - 1 - k) % B))) (R : ACR B N acc few most best) : ∃ few' most' best', f_X3_compare few most frozen healths askers best = some (few', most', best') ∧ ACR B N (updA acc (fwT n H) (hsT H) r) few' most' best' := by
  obtain ⟨r1, r2, rfl, rfl, r5⟩ := R
  have R0 : ACR B N acc (nI acc.1) (nI acc.2.1) best := ⟨r1, r2, rfl, rfl, r5⟩
  have hzl : zset n H < 128 := setOf_lt7 _ hn
  have hf := fwT_le hn H
  have hs := hsT_le hH.1
  have R1 : ACR B N (fwT n H, hsT H, r) (nI (fwT n H)) (nI (hsT H)) (va_cpy askers best 0 0 4) := by
    refine ⟨by show fwT n H ≤ 8; omega, hs, rfl, rfl, fun _ k hk => ?_⟩
    have e : va_cpy askers best 0 0 4 k = askers k := by
      unfold va_cpy
      rw [if_pos (by omega)]
      exact congrArg askers (by omega)
    rw [e]
    exact ha k hk
  unfold f_X3_compare f_X3_compare_b37
  rw [hz, p_bitCount _ hzl, bs, p_hoa7 hh, bs]
  show ∃ few' most' best', (if nI (fwT n H) < nI acc.1 then some (nI (fwT n H), nI (hsT H), va_cpy askers best 0 0 4) else if nI (fwT n H) = nI acc.1 then if nI (hsT H) ≤ nI acc.2.1 then some (nI acc.1, nI acc.2.1, best) else some (nI (fwT n H), nI (hsT H), va_cpy askers best 0 0 4) else some (nI acc.1, nI acc.2.1, best)) = some (few', most', best') ∧ _
  unfold updA
  by_cases h1 : fwT n H < acc.1
  · rw [if_pos (nI_lt h1 (by omega)), if_pos (Or.inl h1)]
    exact ⟨_, _, _, rfl, R1⟩
  · rw [if_neg (nI_nlt (by omega) (by omega))]
    by_cases h2 : fwT n H = acc.1
    · rw [if_pos (by rw [h2])]
      by_cases h3 : hsT H ≤ acc.2.1
      · rw [if_pos (nI_le h3 (by omega)), if_neg (by omega)]
        exact ⟨_, _, _, rfl, R0⟩
      · rw [if_neg (nI_ge (by omega) (by omega)), if_pos (Or.inr ⟨h2, by omega⟩)]
        exact ⟨_, _, _, rfl, R1⟩
    · rw [if_neg (fun q => h2 ((nI_eq (by omega) (by omega)).mp q)), if_neg (by omega)]
      exact ⟨_, _, _, rfl, R0⟩
