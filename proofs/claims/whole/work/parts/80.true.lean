theorem law_op {N : Nat} {fL fM : Sg → Option (Int32 × Sg)} {σ : Sg} (h : OpOK fL fM σ) (C : Sg → Option Int32) (hC : ∀ σ', Inv σ' → C σ' = some 1) : cI (fL σ) (fun k σ1 => cI (fM σ1) (fun r σ2 => cI (f_X8_thrown N σ2) (fun v σ3 => if v = k then (if k = 0 then (if (σ3 34 0) = r then C σ3 else (some 0)) else C σ3) else (some 0)))) = some 1 := by
  obtain ⟨k, σ1, r, σ2, h1, h2, h3, h4, h5⟩ := h
  rw [h1, cI_eq, h2, cI_eq, f_X8_thrown, lt_eq, cI_eq, if_pos h3]
  by_cases g : k = 0
  · rw [if_pos g, if_pos (h4 g)]; exact hC σ2 h5
  · rw [if_neg g]; exact hC σ2 h5
theorem law_all {N L : Nat} (hN : 20000 ≤ N) (hL : L ≤ 2048) (xs : Nat → Int32) : ∀ (n x : Nat) (σ : Sg), Inv σ → x ≤ L → L < x + 4 * n → f_law N L xs n (nI x) σ = some 1 := by
  intro n
  induction n with
  | zero => intro x σ _ h1 h2; exact absurd h2 (by omega)
  | succ n ih =>
    intro x σ hI hx hn
    rw [f_law]
    by_cases g : nI L - 4 < nI x
    · rw [if_pos g]
    · have hx4 : x + 4 ≤ L := by
        by_cases h4 : 4 ≤ L
        · have e : nI L - 4 = nI (L - 4) := by
            have : nI L = nI (L - 4) + nI 4 := by rw [nI_add, Nat.sub_add_cancel h4]
            rw [this, show (4 : Int32) = nI 4 from rfl, Int32.add_sub_cancel]
          rw [e, ltN (by omega) (by omega)] at g
          omega
        · exfalso
          apply g
          have hall : ∀ v : Fin 4, (nI v.1 - 4).toInt < 0 := by decide +kernel
          have := hall ⟨L, by omega⟩
          rw [Int32.lt_iff_toInt_lt, nI_toInt (by omega)]
          have h9 : (nI L - 4).toInt < 0 := this
          omega
      have hC : ∀ σ', Inv σ' → f_law N L xs n (nI (x + 4)) σ' = some 1 := fun σ' h => ih (x + 4) σ' h (by omega) (by omega)
      have e4 : nI x + 4 = nI (x + 4) := nI_add x 4
      have hr0 : ∀ K : Int32 → Option Int32, rdA L xs (nI x) K = K (xs x) := fun K => rdA_eq _ x rfl (by omega) (by omega) K
      have hr1 : ∀ K : Int32 → Option Int32, rdA L xs (nI x + 1) K = K (xs (x + 1)) := fun K => rdA_eq _ (x + 1) (nI_add x 1) (by omega) (by omega) K
      have hr2 : ∀ K : Int32 → Option Int32, rdA L xs (nI x + 2) K = K (xs (x + 2)) := fun K => rdA_eq _ (x + 2) (nI_add x 2) (by omega) (by omega) K
      have hr3 : ∀ K : Int32 → Option Int32, rdA L xs (nI x + 3) K = K (xs (x + 3)) := fun K => rdA_eq _ (x + 3) (nI_add x 3) (by omega) (by omega) K
      rw [if_neg g, hr0]
      generalize xs x &&& 15 = v
      simp only [hr1, hr2, hr3, lt_eq, e4]
      by_cases g0 : v = 0
      · rw [if_pos g0]; exact law_op (op_element hI N _ _) _ hC
      rw [if_neg g0]
      by_cases g1 : v = 1
      · rw [if_pos g1]; exact law_op (op_map hI (by omega) _ _) _ hC
      rw [if_neg g1]
      by_cases g2 : v = 2
      · rw [if_pos g2]; exact law_op (op_content hI (by omega) _ _ _) _ hC
      rw [if_neg g2]
      by_cases g3 : v = 3
      · rw [if_pos g3]; exact law_op (op_shows hI (by omega) _ _) _ hC
      rw [if_neg g3]
      by_cases g4 : v = 4
      · rw [if_pos g4]
        obtain ⟨r, σ1, σ2, h1, h2, h3⟩ := op_walk hI hN
        rw [h1, cI_eq, h2, cI_eq, if_pos rfl]
        exact hC σ2 h3
      rw [if_neg g4]
      by_cases g5 : v = 5
      · rw [if_pos g5]; exact law_op (op_at hI hN _ _) _ hC
      rw [if_neg g5]
      by_cases g6 : v = 6
      · rw [if_pos g6]; exact law_op (op_parent hI (by omega) _ _) _ hC
      rw [if_neg g6]
      by_cases g7 : v = 7
      · rw [if_pos g7]
        obtain ⟨r, σ1, σ2, h1, h2, h3⟩ := op_check hI hN
        rw [h1, cI_eq, h2, cI_eq, if_pos rfl]
        exact hC σ2 h3
      rw [if_neg g7]
      by_cases g8 : v = 8
      · rw [if_pos g8]; exact law_op (op_fault hI N _ _) _ hC
      rw [if_neg g8]
      by_cases g9 : v = 9
      · rw [if_pos g9]; exact law_op (op_heading hI N _ _) _ hC
      rw [if_neg g9]
      by_cases g10 : v = 10
      · rw [if_pos g10]
        by_cases w : xs (x + 2) = 0
        · rw [if_pos w]
          simp only [if_pos w]
          exact law_op (op_words hI N _ 0 (Or.inl rfl)) _ hC
        · rw [if_neg w]
          simp only [if_neg w]
          exact law_op (op_words hI N _ 1 (Or.inr rfl)) _ hC
      rw [if_neg g10]
      by_cases g11 : v = 11
      · rw [if_pos g11]; exact law_op (op_span hI N _ _ _) _ hC
      rw [if_neg g11]
      by_cases g12 : v = 12
      · rw [if_pos g12]; exact law_op (op_outline hI hN _ _) _ hC
      rw [if_neg g12]
      by_cases g13 : v = 13
      · rw [if_pos g13]; exact law_op (op_untagged hI hN _) _ hC
      rw [if_neg g13]
      exact hC σ hI
theorem law_true (L : Nat) (hL : L ≤ 2048) (xs : Nat → Int32) : ∃ N n : Nat, f_law N L xs n 0 sg0 = some 1 :=
  ⟨20000, 513, law_all (Nat.le_refl _) hL xs 513 0 sg0 inv_0 (by omega) (by omega)⟩
