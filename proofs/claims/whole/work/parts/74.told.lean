def TOX (fam quota cc : Int32) (kinds warmths prices fav colds read : Nat → Int32) : Prop := ∃ n q c wn cd lt, TOR n q c wn cd lt fam quota cc kinds warmths prices fav colds read
theorem TOR_add {n q c : Nat} {wn cd : Nat → Nat} {lt : Nat → Nat → Bool} {fam quota cc : Int32} {kinds warmths prices fav colds read : Nat → Int32} (T : TOR n q c wn cd lt fam quota cc kinds warmths prices fav colds read) (hn7 : n < 7) {kd w : Nat} (hkd' : kd < 4) (hw' : w ≤ 9) (pr : Int32) : TOX (nI (n + 1)) quota cc (upd kinds n (nI kd)) (upd warmths n (nI w)) (upd prices n pr) (upd fav n 0) colds (upd (upd (upd (upd (upd read (3 + n) (nI kd)) (10 + n) (nI w)) (17 + n) pr) (24 + n) 0) 0 (nI (n + 1))) := by
  obtain ⟨hn, hq, hc, ⟨rfl, rfl, rfl⟩, ⟨t0, t1, t2⟩, tk, tw, tp, tc, hw, hkd, hcs, hcd, hF, hL⟩ := T
  have key : ∀ j, j ≠ 0 → j ≠ 3 + n → j ≠ 10 + n → j ≠ 17 + n → j ≠ 24 + n → (upd (upd (upd (upd (upd read (3 + n) (nI kd)) (10 + n) (nI w)) (17 + n) pr) (24 + n) 0) 0 (nI (n + 1))) j = read j := fun j h0 h1 h2 h3 h4 => by rw [pk_un h0, pk_un h4, pk_un h3, pk_un h2, pk_un h1]
  refine ⟨n + 1, q, c, fun f => if f = n then w else wn f, cd, fun a b => if a = n ∨ b = n then false else lt a b, by omega, hq, hc, ⟨rfl, rfl, rfl⟩, ⟨pk_us, ?_, ?_⟩, ?_, ?_, ?_, ?_, ?_, ?_, hcs, hcd, ?_, ?_⟩
  · rw [key 1 (by omega) (by omega) (by omega) (by omega) (by omega)]; exact t1
  · rw [key 2 (by omega) (by omega) (by omega) (by omega) (by omega)]; exact t2
  · intro f hf
    by_cases e : f = n
    · subst e; rw [pk_us, pk_un (by omega), pk_un (by omega), pk_un (by omega), pk_un (by omega), pk_us]
    · rw [pk_un e, key (3 + f) (by omega) (by omega) (by omega) (by omega) (by omega)]; exact tk f hf
  · intro f hf
    by_cases e : f = n
    · subst e; rw [pk_us, pk_un (by omega), pk_un (by omega), pk_un (by omega), pk_us]
    · rw [pk_un e, key (10 + f) (by omega) (by omega) (by omega) (by omega) (by omega)]; exact tw f hf
  · intro f hf
    by_cases e : f = n
    · subst e; rw [pk_us, pk_un (by omega), pk_un (by omega), pk_us]
    · rw [pk_un e, key (17 + f) (by omega) (by omega) (by omega) (by omega) (by omega)]; exact tp f hf
  · intro j hj
    rw [key (31 + j) (by omega) (by omega) (by omega) (by omega) (by omega)]; exact tc j hj
  · intro f hf
    by_cases e : f = n
    · subst e; rw [pk_us]; simp only [eq_self, if_true]; exact ⟨True.intro, hw'⟩
    · rw [pk_un e]; simp only [if_neg e]; exact hw f (by omega)
  · intro f hf
    by_cases e : f = n
    · subst e; rw [pk_us]; exact ⟨kd, hkd', rfl⟩
    · rw [pk_un e]; exact hkd f (by omega)
  · intro b hb
    by_cases e : b = n
    · subst e
      rw [pk_us]
      have : fset (b + 1) (fun a b' => if a = b ∨ b' = b then false else lt a b') b = 0 := by
        apply setOf_ext (n := b + 1) (setOf_lt _ _) (Nat.pow_pos (by decide))
        intro k hk
        rw [setOf_bit]
        simp
      rw [this, nI_0]
    · rw [pk_un e, hF b (by omega)]
      congr 1
      show setOf n (fun a => lt a b) = setOf (n + 1) (fun a => if a = n ∨ b = n then false else lt a b)
      rw [setOf]
      simp only [true_or, if_true]
      rw [setOf_congr (P := fun a => if a = n ∨ b = n then false else lt a b) (Q := fun a => lt a b) (fun k hk => by rw [if_neg (by omega)])]
      simp
  · intro a ha
    by_cases e : a = n
    · subst e
      rw [pk_un (by omega), pk_us]
      have : lset (a + 1) (fun a' b' => if a' = a ∨ b' = a then false else lt a' b') a = 0 := by
        apply setOf_ext (n := a + 1) (setOf_lt _ _) (Nat.pow_pos (by decide))
        intro k hk
        rw [setOf_bit]
        simp
      rw [this, nI_0]
    · rw [key (24 + a) (by omega) (by omega) (by omega) (by omega) (by omega), hL a (by omega)]
      congr 1
      show setOf n (fun b => lt a b) = setOf (n + 1) (fun b => if a = n ∨ b = n then false else lt a b)
      rw [setOf]
      simp only [or_true, if_true]
      rw [setOf_congr (P := fun b => if a = n ∨ b = n then false else lt a b) (Q := fun b => lt a b) (fun k hk => by rw [if_neg (by omega)])]
      simp
theorem TOR_favs {n q c : Nat} {wn cd : Nat → Nat} {lt : Nat → Nat → Bool} {fam quota cc : Int32} {kinds warmths prices fav colds read : Nat → Int32} (T : TOR n q c wn cd lt fam quota cc kinds warmths prices fav colds read) {a b : Nat} (ha : a < n) (hb : b < n) (on : Bool) : TOX fam quota cc kinds warmths prices (upd fav b (nI (bitU (fset n lt b) a on))) colds (upd read (24 + a) (nI (bitU (lset n lt a) b on))) := by
  obtain ⟨hn, hq, hc, e0, ⟨t0, t1, t2⟩, tk, tw, tp, tc, hw, hkd, hcs, hcd, hF, hL⟩ := T
  refine ⟨n, q, c, wn, cd, lkU lt a b on, hn, hq, hc, e0, ⟨?_, ?_, ?_⟩, ?_, ?_, ?_, ?_, hw, hkd, hcs, hcd, ?_, ?_⟩
  · rw [pk_un (by omega)]; exact t0
  · rw [pk_un (by omega)]; exact t1
  · rw [pk_un (by omega)]; exact t2
  · intro f hf; rw [pk_un (by omega)]; exact tk f hf
  · intro f hf; rw [pk_un (by omega)]; exact tw f hf
  · intro f hf; rw [pk_un (by omega)]; exact tp f hf
  · intro f hf; rw [pk_un (by omega)]; exact tc f hf
  · intro b' hb'
    rw [← fset_U hn ha on]
    by_cases e : b' = b
    · subst e; rw [pk_us, if_pos rfl]
    · rw [pk_un e, if_neg e]; exact hF b' hb'
  · intro a' ha'
    rw [← lset_U hn hb on]
    by_cases e : a' = a
    · subst e; rw [pk_us, if_pos rfl]
    · rw [pk_un (by omega), if_neg e]; exact hL a' ha'
theorem TOR_quota {n q c : Nat} {wn cd : Nat → Nat} {lt : Nat → Nat → Bool} {fam quota cc : Int32} {kinds warmths prices fav colds read : Nat → Int32} (T : TOR n q c wn cd lt fam quota cc kinds warmths prices fav colds read) {v : Nat} (hv : 1 ≤ v ∧ v ≤ 20) : TOX fam (nI v) cc kinds warmths prices fav colds (upd read 1 (nI v)) := by
  obtain ⟨hn, hq, hc, ⟨e1, e2, e3⟩, ⟨t0, t1, t2⟩, tk, tw, tp, tc, hw, hkd, hcs, hcd, hF, hL⟩ := T
  refine ⟨n, v, c, wn, cd, lt, hn, hv, hc, ⟨e1, rfl, e3⟩, ⟨?_, pk_us, ?_⟩, ?_, ?_, ?_, ?_, hw, hkd, hcs, hcd, hF, ?_⟩
  · rw [pk_un (by omega)]; exact t0
  · rw [pk_un (by omega)]; exact t2
  · intro f hf; rw [pk_un (by omega)]; exact tk f hf
  · intro f hf; rw [pk_un (by omega)]; exact tw f hf
  · intro f hf; rw [pk_un (by omega)]; exact tp f hf
  · intro f hf; rw [pk_un (by omega)]; exact tc f hf
  · intro a' ha'; rw [pk_un (by omega)]; exact hL a' ha'
theorem TOR_cold {n q c : Nat} {wn cd : Nat → Nat} {lt : Nat → Nat → Bool} {fam quota cc : Int32} {kinds warmths prices fav colds read : Nat → Int32} (T : TOR n q c wn cd lt fam quota cc kinds warmths prices fav colds read) (hc6 : c < 6) {v : Nat} (hv : v ≤ 40) : TOX fam quota (nI (c + 1)) kinds warmths prices fav (upd colds c (nI v)) (upd (upd read (31 + c) (nI v)) 2 (nI (c + 1))) := by
  obtain ⟨hn, hq, hc, ⟨e1, e2, e3⟩, ⟨t0, t1, t2⟩, tk, tw, tp, tc, hw, hkd, hcs, hcd, hF, hL⟩ := T
  refine ⟨n, q, c + 1, wn, fun j => if j = c then v else cd j, lt, hn, hq, by omega, ⟨e1, e2, rfl⟩, ⟨?_, ?_, pk_us⟩, ?_, ?_, ?_, ?_, hw, hkd, ?_, ?_, hF, ?_⟩
  · rw [pk_un (by omega), pk_un (by omega)]; exact t0
  · rw [pk_un (by omega), pk_un (by omega)]; exact t1
  · intro f hf; rw [pk_un (by omega), pk_un (by omega)]; exact tk f hf
  · intro f hf; rw [pk_un (by omega), pk_un (by omega)]; exact tw f hf
  · intro f hf; rw [pk_un (by omega), pk_un (by omega)]; exact tp f hf
  · intro j hj
    by_cases e : j = c
    · subst e; rw [pk_us, pk_un (by omega), pk_us]
    · rw [pk_un e, pk_un (by omega), pk_un (by omega)]; exact tc j hj
  · intro j hj
    by_cases e : j = c
    · subst e; rw [pk_us]; simp only [eq_self, if_true]
    · rw [pk_un e]; simp only [if_neg e]; exact hcs j (by omega)
  · intro j
    show (if j = c then v else cd j) ≤ 40
    split
    · exact hv
    · exact hcd j
  · intro a' ha'; rw [pk_un (by omega), pk_un (by omega)]; exact hL a' ha'
theorem TOR_mild {n q c : Nat} {wn cd : Nat → Nat} {lt : Nat → Nat → Bool} {fam quota cc : Int32} {kinds warmths prices fav colds read : Nat → Int32} (T : TOR n q c wn cd lt fam quota cc kinds warmths prices fav colds read) : TOX fam quota 0 kinds warmths prices fav colds (upd read 2 0) := by
  obtain ⟨hn, hq, hc, ⟨e1, e2, e3⟩, ⟨t0, t1, t2⟩, tk, tw, tp, tc, hw, hkd, hcs, hcd, hF, hL⟩ := T
  refine ⟨n, q, 0, wn, cd, lt, hn, hq, by omega, ⟨e1, e2, rfl⟩, ⟨?_, ?_, pk_us⟩, ?_, ?_, ?_, ?_, hw, hkd, fun j hj => absurd hj (Nat.not_lt_zero j), hcd, hF, ?_⟩
  · rw [pk_un (by omega)]; exact t0
  · rw [pk_un (by omega)]; exact t1
  · intro f hf; rw [pk_un (by omega)]; exact tk f hf
  · intro f hf; rw [pk_un (by omega)]; exact tw f hf
  · intro f hf; rw [pk_un (by omega)]; exact tp f hf
  · intro f hf; rw [pk_un (by omega)]; exact tc f hf
  · intro a' ha'; rw [pk_un (by omega)]; exact hL a' ha'
theorem TOR_clear {n q c : Nat} {wn cd : Nat → Nat} {lt : Nat → Nat → Bool} {fam quota cc : Int32} {kinds warmths prices fav colds read : Nat → Int32} (T : TOR n q c wn cd lt fam quota cc kinds warmths prices fav colds read) : TOX 0 3 0 kinds warmths prices fav colds (upd (upd (upd read 0 0) 1 3) 2 0) := by
  obtain ⟨hn, hq, hc, ⟨e1, e2, e3⟩, ⟨t0, t1, t2⟩, tk, tw, tp, tc, hw, hkd, hcs, hcd, hF, hL⟩ := T
  refine ⟨0, 3, 0, wn, cd, lt, by omega, by omega, by omega, ⟨rfl, rfl, rfl⟩, ⟨?_, ?_, pk_us⟩, ?_, ?_, ?_, ?_, fun j hj => absurd hj (Nat.not_lt_zero j), fun j hj => absurd hj (Nat.not_lt_zero j), fun j hj => absurd hj (Nat.not_lt_zero j), hcd, fun j hj => absurd hj (Nat.not_lt_zero j), fun j hj => absurd hj (Nat.not_lt_zero j)⟩
  · rw [pk_un (by omega), pk_un (by omega), pk_us]; rfl
  · rw [pk_un (by omega), pk_us]; rfl
  · intro f hf; rw [pk_un (by omega), pk_un (by omega), pk_un (by omega)]; exact tk f hf
  · intro f hf; rw [pk_un (by omega), pk_un (by omega), pk_un (by omega)]; exact tw f hf
  · intro f hf; rw [pk_un (by omega), pk_un (by omega), pk_un (by omega)]; exact tp f hf
  · intro f hf; rw [pk_un (by omega), pk_un (by omega), pk_un (by omega)]; exact tc f hf
theorem num_c {len p a b : Nat} {t : Nat → Nat} (hb : ∀ j, j < len → t j ≤ 255) (ha : a < 1000) (hb' : b < 999) : numR len t p (nI a) (nI b) = -1 ∨ ∃ v, a ≤ v ∧ v ≤ b ∧ numR len t p (nI a) (nI b) = nI v := by
  have hv := tokV_b (p := p) hb
  unfold numR
  split
  · rename_i h
    exact Or.inr ⟨tokV len t p, (nI_leI (by omega) (by omega)).mp h.2.1, (nI_leI (by omega) (by omega)).mp h.2.2, rfl⟩
  · exact Or.inl rfl
theorem num_f {len p n : Nat} {t : Nat → Nat} (hb : ∀ j, j < len → t j ≤ 255) (hn : n ≤ 7) : numR len t p 0 (nI n - 1) = -1 ∨ ∃ v, v < n ∧ numR len t p 0 (nI n - 1) = nI v := by
  have hv := tokV_b (p := p) hb
  unfold numR
  split
  · rename_i h
    refine Or.inr ⟨tokV len t p, ?_, rfl⟩
    have := Int32.le_iff_toInt_le.mp h.2.2
    have e1 : (nI n - 1).toInt = (n : Int) - 1 := pk_sub_toInt (a := n) (b := 1) (by omega) (by omega)
    rw [e1, nI_toI (by omega)] at this
    omega
  · exact Or.inl rfl
theorem nI_m1 {v : Nat} (h : v < 1000) : ¬ nI v = -1 := fun q => by
  have := congrArg Int32.toInt q
  rw [nI_toI (by omega)] at this
  have e : (-1 : Int32).toInt = -1 := by decide
  omega
theorem fam_m {n : Nat} (hn : n ≤ 7) : ¬ nI 999 ≤ nI n - 1 := fun q => by
  have := Int32.le_iff_toInt_le.mp q
  have e1 : (nI n - 1).toInt = (n : Int) - 1 := pk_sub_toInt (a := n) (b := 1) (by omega) (by omega)
  rw [e1, nI_toI (by omega)] at this
  omega
theorem p_ref0 : ∀ s, s < 128 → ∀ k, k < 7 → (nI s &&& (((1 : Int32) <<< (nI k &&& 31)) ^^^ (-1))) = nI (s - (s &&& 2 ^ k)) := by decide +kernel
