theorem nI_div20 {a : Nat} (h : a < 2 ^ 31) : nI a / 20 = nI (a / 20) := by
  apply Int32.toInt_inj.mp
  rw [Int32.toInt_div, nI_toInt h, nI_toInt (by omega)]
  have e1 : (20 : Int32).toInt = 20 := by decide
  rw [e1, Int.tdiv_eq_ediv_of_nonneg (by omega)]
  rw [Int.bmod_eq_of_le (by omega) (by omega)]
  omega
theorem place_none {N : Nat} {σ : Sg} {ns c : Nat} {sh : Nat → Nat} (h15 : σ 35 15 = nI ns) (hns : ns ≤ 200) (hs : ∀ j, j < ns → σ 46 j = nI (sh j) ∧ sh j < 200) (hc : c < 200) (K : Int32 → Sg → Option (Int32 × Sg)) : ∀ (n j : Nat) (x : Int32), j ≤ ns → ns - j < n → (∀ i, j ≤ i → i < ns → sh i ≠ c) → f_X8_placeOf_7 N (nI c) K n (nI (cnt sh (c / 20) j)) x (nI j) σ = K x σ := by
  intro n
  induction n with
  | zero => intro j x _ h; exact absurd h (by omega)
  | succ n ih =>
    intro j x hj hn hno
    rw [f_X8_placeOf_7, lt_eq, h15]
    by_cases g : ns ≤ j
    · rw [if_pos (nI_le g (by omega))]
    · have hj2 := hs j (by omega)
      have hc1 : ¬ nI (sh j) = nI c := by
        rw [eqN (by omega) (by omega)]
        exact hno j (by omega) (by omega)
      rw [if_neg (nI_ge (by omega) (by omega)), rdA_eq _ j rfl (by omega) (by decide), hj2.1, nI_div20 (by omega), nI_div20 (by omega), eqN (by omega) (by omega)]
      have := ih (j + 1) x (by omega) (by omega) (fun i h1 h2 => hno i (by omega) h2)
      by_cases e : sh j / 20 = c / 20
      · rw [if_pos e, lt_eq, rdA_eq _ j rfl (by omega) (by decide), hj2.1, if_neg hc1, lt_eq, nI_1, nI_1]
        rw [cnt, if_pos e] at this
        exact this
      · rw [if_neg e, rdA_eq _ j rfl (by omega) (by decide), hj2.1, if_neg hc1, lt_eq, nI_1]
        rw [cnt, if_neg e] at this
        exact this
theorem place_some {N : Nat} {σ : Sg} {ns c t : Nat} {sh : Nat → Nat} (h15 : σ 35 15 = nI ns) (hns : ns ≤ 200) (hs : ∀ j, j < ns → σ 46 j = nI (sh j) ∧ sh j < 200) (hi : ∀ i j, i < j → j < ns → sh i ≠ sh j) (hc : c < 200) (ht : t < ns) (htc : sh t = c) (K : Int32 → Sg → Option (Int32 × Sg)) : ∀ (n j : Nat) (x : Int32), j ≤ t → ns - j < n → f_X8_placeOf_7 N (nI c) K n (nI (cnt sh (c / 20) j)) x (nI j) σ = K (nI (cnt sh (c / 20) t + 1)) σ := by
  intro n
  induction n with
  | zero => intro j x _ h; exact absurd h (by omega)
  | succ n ih =>
    intro j x hj hn
    have hj2 := hs j (by omega)
    rw [f_X8_placeOf_7, lt_eq, h15, if_neg (nI_ge (by omega) (by omega)), rdA_eq _ j rfl (by omega) (by decide), hj2.1, nI_div20 (by omega), nI_div20 (by omega), eqN (by omega) (by omega)]
    by_cases ej : j = t
    · subst ej
      have e : sh j / 20 = c / 20 := by rw [htc]
      rw [if_pos e, lt_eq, rdA_eq _ j rfl (by omega) (by decide), hj2.1, if_pos (by rw [htc]), lt_eq, nI_1, nI_1]
      have := place_none (N := N) h15 hns hs hc K n (j + 1) (nI (cnt sh (c / 20) j + 1)) (by omega) (by omega) (fun i h1 h2 h3 => hi j i (by omega) h2 (by rw [h3, htc]))
      rw [cnt, if_pos e] at this
      exact this
    · have hc1 : ¬ nI (sh j) = nI c := by
        rw [eqN (by omega) (by omega), ← htc]
        exact hi j t (by omega) ht
      have := ih (j + 1) x (by omega) (by omega)
      by_cases e : sh j / 20 = c / 20
      · rw [if_pos e, lt_eq, rdA_eq _ j rfl (by omega) (by decide), hj2.1, if_neg hc1, lt_eq, nI_1, nI_1]
        rw [cnt, if_pos e] at this
        exact this
      · rw [if_neg e, rdA_eq _ j rfl (by omega) (by decide), hj2.1, if_neg hc1, lt_eq, nI_1]
        rw [cnt, if_neg e] at this
        exact this
theorem x8_place_n {N : Nat} (hN9 : 200 < N) {σ : Sg} {ns c : Nat} {sh : Nat → Nat} (h15 : σ 35 15 = nI ns) (hns : ns ≤ 200) (hs : ∀ j, j < ns → σ 46 j = nI (sh j) ∧ sh j < 200) (hc : c < 200) (hno : ∀ i, i < ns → sh i ≠ c) : f_X8_placeOf N (nI c) σ = some (0, σ) := by
  have := place_none (N := N) h15 hns hs hc (fun v14 σ15 => some (v14, σ15)) N 0 0 (by omega) (by omega) (fun i _ h => hno i h)
  exact this
theorem x8_place_y {N : Nat} (hN9 : 200 < N) {σ : Sg} {ns c t : Nat} {sh : Nat → Nat} (h15 : σ 35 15 = nI ns) (hns : ns ≤ 200) (hs : ∀ j, j < ns → σ 46 j = nI (sh j) ∧ sh j < 200) (hi : ∀ i j, i < j → j < ns → sh i ≠ sh j) (hc : c < 200) (ht : t < ns) (htc : sh t = c) : f_X8_placeOf N (nI c) σ = some (nI (cnt sh (c / 20) t + 1), σ) := by
  have := place_some (N := N) h15 hns hs hi hc ht htc (fun v14 σ15 => some (v14, σ15)) N 0 0 (by omega) (by omega)
  exact this
/-- distinct numbers below m -/
theorem pigeon : ∀ (m n : Nat) (f : Nat → Nat), (∀ i, i < n → f i < m) → (∀ i j, i < j → j < n → f i ≠ f j) → n ≤ m := by
  intro m
  induction m with
  | zero =>
    intro n f h1 _
    cases n with
    | zero => exact Nat.le_refl _
    | succ n => exact absurd (h1 0 (by omega)) (by omega)
  | succ m ih =>
    intro n f h1 h2
    by_cases h : ∃ t, t < n ∧ f t = m
    · obtain ⟨t, ht, hm⟩ := h
      have := ih (n - 1) (fun i => if i < t then f i else f (i + 1)) (fun i hi => by
        by_cases g : i < t
        · show (if i < t then f i else f (i + 1)) < m
          rw [if_pos g]
          have := h1 i (by omega)
          have := h2 i t g ht
          omega
        · show (if i < t then f i else f (i + 1)) < m
          rw [if_neg g]
          have := h1 (i + 1) (by omega)
          have := h2 t (i + 1) (by omega) (by omega)
          omega) (fun i j hij hj => by
        show (if i < t then f i else f (i + 1)) ≠ (if j < t then f j else f (j + 1))
        by_cases g : i < t
        · rw [if_pos g]
          by_cases g' : j < t
          · rw [if_pos g']; exact h2 i j hij (by omega)
          · rw [if_neg g']; exact h2 i (j + 1) (by omega) (by omega)
        · rw [if_neg g, if_neg (by omega)]; exact h2 (i + 1) (j + 1) (by omega) (by omega))
      omega
    · have := ih n f (fun i hi => by
        have := h1 i hi
        have : f i ≠ m := fun e => h ⟨i, hi, e⟩
        omega) h2
      omega
theorem cnt_le (sh : Nat → Nat) (p : Nat) : ∀ m, cnt sh p m ≤ m := by
  intro m
  induction m with
  | zero => exact Nat.le_refl _
  | succ m ih => rw [cnt]; split <;> omega
theorem cnt_mono (sh : Nat → Nat) (p : Nat) {a b : Nat} (h : a ≤ b) : cnt sh p a ≤ cnt sh p b := by
  induction b with
  | zero => have : a = 0 := by omega
            rw [this]; exact Nat.le_refl _
  | succ b ih =>
    by_cases e : a = b + 1
    · rw [e]; exact Nat.le_refl _
    · have := ih (by omega)
      rw [cnt]; omega
/-- the t-th mark of page p: the place where it stands -/
theorem cnt_at (sh : Nat → Nat) (p : Nat) : ∀ (m i : Nat), i < cnt sh p m → ∃ t, t < m ∧ sh t / 20 = p ∧ cnt sh p t = i := by
  intro m
  induction m with
  | zero => intro i h; exact absurd h (by show ¬ i < 0; omega)
  | succ m ih =>
    intro i h
    by_cases g : i < cnt sh p m
    · obtain ⟨t, h1, h2, h3⟩ := ih i g
      exact ⟨t, by omega, h2, h3⟩
    · rw [cnt] at h
      by_cases e : sh m / 20 = p
      · rw [if_pos e] at h
        exact ⟨m, by omega, e, by omega⟩
      · rw [if_neg e] at h; omega
theorem cnt_lt {sh : Nat → Nat} {p t m : Nat} (h : t < m) (e : sh t / 20 = p) : cnt sh p t < cnt sh p m := by
  have := cnt_mono sh p (show t + 1 ≤ m by omega)
  rw [cnt, if_pos e] at this
  omega
theorem cnt_pick (sh : Nat → Nat) (p m : Nat) : ∃ f : Nat → Nat, ∀ i, i < cnt sh p m → f i < m ∧ sh (f i) / 20 = p ∧ cnt sh p (f i) = i := by
  refine ⟨fun i => if h : i < cnt sh p m then (cnt_at sh p m i h).choose else 0, fun i hi => ?_⟩
  show (if h : i < cnt sh p m then (cnt_at sh p m i h).choose else 0) < m ∧ sh (if h : i < cnt sh p m then (cnt_at sh p m i h).choose else 0) / 20 = p ∧ cnt sh p (if h : i < cnt sh p m then (cnt_at sh p m i h).choose else 0) = i
  rw [dif_pos hi]
  exact (cnt_at sh p m i hi).choose_spec
theorem cnt_20 {sh : Nat → Nat} {ns : Nat} (hi : ∀ i j, i < j → j < ns → sh i ≠ sh j) (p : Nat) : cnt sh p ns ≤ 20 := by
  obtain ⟨f, hf⟩ := cnt_pick sh p ns
  refine pigeon 20 _ (fun i => sh (f i) - 20 * p) (fun i h => ?_) (fun i j hij hj => ?_)
  · have := hf i h
    show sh (f i) - 20 * p < 20
    omega
  · have h1 := hf i (by omega)
    have h2 := hf j hj
    show sh (f i) - 20 * p ≠ sh (f j) - 20 * p
    have h3 : f i ≠ f j := fun e => by rw [e] at h1; omega
    have h4 : sh (f i) ≠ sh (f j) := by
      rcases Nat.lt_trichotomy (f i) (f j) with g | g | g
      · exact hi _ _ g h2.1
      · exact absurd g h3
      · exact fun e => hi _ _ g h1.1 e.symm
    omega
