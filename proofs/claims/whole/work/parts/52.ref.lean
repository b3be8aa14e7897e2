def RB (σ ρ : Sg) : Prop := (∀ c, 36 ≤ c → c ≤ 46 → ρ c = σ c) ∧ ∀ i, i ≠ 0 → i ≠ 17 → i ≠ 22 → i ≠ 25 → ρ 35 i = σ 35 i
section RD
variable {σ ρ : Sg} {ne nk np nt ns nf : Nat} {kp kn sh ix : Nat → Nat} {N : Nat}
theorem rb_c (hB : RB σ ρ) {τ : Sg} (hA : AgR ρ τ) {c : Nat} (h1 : 36 ≤ c) (h2 : c ≤ 46) : τ c = σ c := by
  rw [hA.1 c (by unfold Wr; simp; omega), hB.1 c h1 h2]
theorem rb_i (hB : RB σ ρ) {τ : Sg} (hA : AgR ρ τ) {i : Nat} (h0 : i ≠ 0) (h1 : i ≠ 17) (h2 : i ≠ 22) (h3 : i ≠ 25) : τ 35 i = σ 35 i := by
  rw [hA.2 i h3, hB.2 i h0 h1 h2 h3]
theorem r_is (hI : IA σ ne nk np nt ns nf kp kn sh) (hB : RB σ ρ) (hN9 : 200 ≤ N) {τ : Sg} (hA : AgR ρ τ) {e : Nat} (he : e < 60) (w : Int32) : f_X8_is N (nI e) w τ = some (if sS σ e = w then 1 else 0, τ) := by
  have h41 : τ 41 = σ 41 := rb_c hB hA (by decide) (by decide)
  have h36 : τ 36 = σ 36 := rb_c hB hA (by decide) (by decide)
  rw [x8_is (by omega) he (by rw [h41]; exact hI.2.2.2.1) (by rw [h36]; exact (hI.2.2.1.2.1 e he).1) w, h41, h36]
  rfl
theorem r_par0 {τ : Sg} (h8 : τ 35 8 = nI nk) (hnk : nk ≤ 160) (hne : ne ≤ 60) (hK : gK (τ 42) (τ 43) ne nk kp kn) {e : Nat} (he : e < 60) (K : Int32 → Sg → Option (Int32 × Sg)) : ∀ (n j : Nat) (x : Int32), j ≤ nk → nk - j < n → (∀ i, j ≤ i → i < nk → kn i ≠ e) → f_X8_parentOf_4 N (nI e) K n x (nI j) τ = K x τ := by
  intro n
  induction n with
  | zero => intro j x _ h; exact absurd h (by omega)
  | succ n ih =>
    intro j x hj hn hno
    rw [f_X8_parentOf_4, lt_eq, h8]
    by_cases g : nk ≤ j
    · rw [if_pos (nI_le g (by omega))]
    · rw [if_neg (nI_ge (by omega) (by omega)), rdA_eq _ j rfl (by omega) (by decide), (hK.1 j (by omega)).2.1, if_neg, lt_eq, nI_1]
      · exact ih (j + 1) x (by omega) (by omega) (fun i h1 h2 => hno i (by omega) h2)
      · rw [eqN (by have := gK_rng hK (show j < nk by omega); omega) (by omega)]
        exact hno j (by omega) (by omega)
theorem r_par1 {τ : Sg} (h8 : τ 35 8 = nI nk) (hnk : nk ≤ 160) (hne : ne ≤ 60) (hK : gK (τ 42) (τ 43) ne nk kp kn) {e t : Nat} (he : e < 60) (ht : t < nk) (hte : kn t = e) (K : Int32 → Sg → Option (Int32 × Sg)) : ∀ (n j : Nat) (x : Int32), j ≤ t → nk - j < n → f_X8_parentOf_4 N (nI e) K n x (nI j) τ = K (nI (kp t)) τ := by
  intro n
  induction n with
  | zero => intro j x _ h; exact absurd h (by omega)
  | succ n ih =>
    intro j x hj hn
    rw [f_X8_parentOf_4, lt_eq, h8, if_neg (nI_ge (by omega) (by omega)), rdA_eq _ j rfl (by omega) (by decide), (hK.1 j (by omega)).2.1]
    by_cases g : j = t
    · rw [if_pos (by rw [g, hte]), rdA_eq _ j rfl (by omega) (by decide), (hK.1 j (by omega)).1, lt_eq, nI_1, g]
      exact r_par0 h8 hnk hne hK he K n (t + 1) _ (by omega) (by omega) (fun i h1 h2 h3 => absurd (gK_inj hK h2 ht (by rw [h3, hte])) (by omega))
    · rw [if_neg, lt_eq, nI_1]
      · exact ih (j + 1) x (by omega) (by omega)
      · rw [eqN (by have := gK_rng hK (show j < nk by omega); omega) (by omega)]
        intro h3
        exact g (gK_inj hK (by omega) ht (by rw [h3, hte]))
theorem r_parent (hI : IA σ ne nk np nt ns nf kp kn sh) (hTr : Tr kp kn ix nk ne) (hB : RB σ ρ) (hN9 : 200 ≤ N) {τ : Sg} (hA : AgR ρ τ) {e : Nat} (he : e < ne) : f_X8_parentOf N (nI e) τ = some (if e = 0 then -1 else nI (kp (ix e)), τ) := by
  have h60 := ne60 hI
  have n17 := hI.1.2.2.2.2.2.2.2.2.2.2.2.2
  have h8 : τ 35 8 = nI nk := by rw [rb_i hB hA (by decide) (by decide) (by decide) (by decide)]; exact hI.1.2.2.2.2.2.2.1
  have hK : gK (τ 42) (τ 43) ne nk kp kn := by rw [rb_c hB hA (c := 42) (by decide) (by decide), rb_c hB hA (c := 43) (by decide) (by decide)]; exact hI.2.2.2.2.1
  unfold f_X8_parentOf
  by_cases e0 : e = 0
  · rw [if_pos e0, ← nI_0, r_par0 h8 (by omega) h60 hK (by omega) _ N 0 _ (by omega) (by omega) (fun i _ h => by have := gK_rng hK h; omega)]
  · obtain ⟨q1, q2, q3⟩ := Tr_pr hTr (show 1 ≤ e by omega) he h60
    rw [if_neg e0, ← nI_0, r_par1 h8 (by omega) h60 hK (by omega) q1 q2 _ N 0 _ (by omega) (by omega)]
theorem r_placed (hI : IA σ ne nk np nt ns nf kp kn sh) (hTr : Tr kp kn ix nk ne) (hB : RB σ ρ) (hN9 : 200 ≤ N) {τ : Sg} (hA : AgR ρ τ) {e : Nat} (he : e < ne) : f_X8_isPlaced N (nI e) τ = some (if Q4 σ kp ix e = true then 0 else 1, τ) := by
  have h60 := ne60 hI
  have hp := r_parent hI hTr hB hN9 hA he
  by_cases e0 : e = 0
  · subst e0
    have hs0 : sS σ 0 = 0 := by
      unfold sS std
      rw [hI.2.2.1.1, itr_non _ (by decide)]
    rw [if_pos rfl] at hp
    have h1 : ∀ w, f_X8_is N (nI 0) w τ = some (if (0 : Int32) = w then 1 else 0, τ) := fun w => by rw [r_is hI hB hN9 hA (by decide) w, hs0]
    simp [f_X8_isPlaced, hp, h1, cI, f_X8_suits, f_X8_isCell, Q4]
  · obtain ⟨q1, q2, q3⟩ := Tr_pr hTr (show 1 ≤ e by omega) he h60
    rw [if_neg e0] at hp
    have h1 : ∀ w, f_X8_is N (nI e) w τ = some (if sS σ e = w then 1 else 0, τ) := fun w => r_is hI hB hN9 hA (by omega) w
    have h2 : ∀ w, f_X8_is N (nI (kp (ix e))) w τ = some (if sS σ (kp (ix e)) = w then 1 else 0, τ) := fun w => r_is hI hB hN9 hA (by omega) w
    have hm : ¬ nI (kp (ix e)) = -1 := m1_ne (by omega)
    have hq : Q4 σ kp ix e = misB (sS σ e) (sS σ (kp (ix e))) := by simp [Q4, e0]
    rw [hq]
    clear hq
    generalize sS σ e = s at h1 ⊢
    generalize sS σ (kp (ix e)) = t at h2 ⊢
    unfold misB
    by_cases h5 : s = 5
    · subst h5
      by_cases a4 : t = 4
      · subst a4; simp [f_X8_isPlaced, hp, hm, h1, h2, f_X8_suits, f_X8_isCell, cI, gd]
      · by_cases a6 : t = 6
        · subst a6; simp [f_X8_isPlaced, hp, hm, h1, h2, f_X8_suits, f_X8_isCell, cI, gd]
        · by_cases a7 : t = 7
          · subst a7; simp [f_X8_isPlaced, hp, hm, h1, h2, f_X8_suits, f_X8_isCell, cI, gd]
          · simp [f_X8_isPlaced, hp, hm, h1, h2, f_X8_suits, f_X8_isCell, cI, gd, a4, a6, a7]
    · by_cases h7 : s = 7
      · subst h7
        by_cases a4 : t = 4
        · subst a4; simp [f_X8_isPlaced, hp, hm, h1, h2, f_X8_suits, f_X8_isCell, cI, gd]
        · by_cases a6 : t = 6
          · subst a6; simp [f_X8_isPlaced, hp, hm, h1, h2, f_X8_suits, f_X8_isCell, cI, gd]
          · by_cases a7 : t = 7
            · subst a7; simp [f_X8_isPlaced, hp, hm, h1, h2, f_X8_suits, f_X8_isCell, cI, gd]
            · simp [f_X8_isPlaced, hp, hm, h1, h2, f_X8_suits, f_X8_isCell, cI, gd, a4, a6, a7]
      · by_cases h8 : s = 8
        · subst h8
          by_cases a4 : t = 4
          · subst a4; simp [f_X8_isPlaced, hp, hm, h1, h2, f_X8_suits, f_X8_isCell, cI, gd]
          · by_cases a6 : t = 6
            · subst a6; simp [f_X8_isPlaced, hp, hm, h1, h2, f_X8_suits, f_X8_isCell, cI, gd]
            · by_cases a7 : t = 7
              · subst a7; simp [f_X8_isPlaced, hp, hm, h1, h2, f_X8_suits, f_X8_isCell, cI, gd]
              · simp [f_X8_isPlaced, hp, hm, h1, h2, f_X8_suits, f_X8_isCell, cI, gd, a4, a6, a7]
        · by_cases h9 : s = 9
          · subst h9
            by_cases a4 : t = 4
            · subst a4; simp [f_X8_isPlaced, hp, hm, h1, h2, f_X8_suits, f_X8_isCell, cI, gd]
            · by_cases a6 : t = 6
              · subst a6; simp [f_X8_isPlaced, hp, hm, h1, h2, f_X8_suits, f_X8_isCell, cI, gd]
              · by_cases a7 : t = 7
                · subst a7; simp [f_X8_isPlaced, hp, hm, h1, h2, f_X8_suits, f_X8_isCell, cI, gd]
                · simp [f_X8_isPlaced, hp, hm, h1, h2, f_X8_suits, f_X8_isCell, cI, gd, a4, a6, a7]
          · by_cases h12 : s = 12
            · subst h12
              by_cases a4 : t = 4
              · subst a4; simp [f_X8_isPlaced, hp, hm, h1, h2, f_X8_suits, f_X8_isCell, cI, gd]
              · by_cases a6 : t = 6
                · subst a6; simp [f_X8_isPlaced, hp, hm, h1, h2, f_X8_suits, f_X8_isCell, cI, gd]
                · by_cases a7 : t = 7
                  · subst a7; simp [f_X8_isPlaced, hp, hm, h1, h2, f_X8_suits, f_X8_isCell, cI, gd]
                  · simp [f_X8_isPlaced, hp, hm, h1, h2, f_X8_suits, f_X8_isCell, cI, gd, a4, a6, a7]
            · by_cases a4 : t = 4
              · subst a4; simp [f_X8_isPlaced, hp, hm, h1, h2, f_X8_suits, f_X8_isCell, cI, gd, h5, h7, h8, h9, h12]
              · by_cases a6 : t = 6
                · subst a6; simp [f_X8_isPlaced, hp, hm, h1, h2, f_X8_suits, f_X8_isCell, cI, gd, h5, h7, h8, h9, h12]
                · by_cases a7 : t = 7
                  · subst a7; simp [f_X8_isPlaced, hp, hm, h1, h2, f_X8_suits, f_X8_isCell, cI, gd, h5, h7, h8, h9, h12]
                  · simp [f_X8_isPlaced, hp, hm, h1, h2, f_X8_suits, f_X8_isCell, cI, gd, h5, h7, h8, h9, h12, a4, a6, a7]
end RD
