theorem nI_mul (a b : Nat) : nI a * nI b = nI (a * b) := (Int32.ofNat_mul a b).symm
theorem owner_none {N : Nat} {σ : Sg} {ne nk c : Nat} {kp kn : Nat → Nat} (h8 : σ 35 8 = nI nk) (hnk : nk ≤ 160) (hK : gK (σ 42) (σ 43) ne nk kp kn) (hc : c < 200) (K : Int32 → Sg → Option (Int32 × Sg)) : ∀ (n j : Nat) (x : Int32), j ≤ nk → nk - j < n → (∀ i, j ≤ i → i < nk → kn i ≠ 1000 + c) → ne ≤ 60 → f_X8_ownerOf_4 N (nI c) K n x (nI j) σ = K x σ := by
  intro n
  induction n with
  | zero => intro j x _ h; exact absurd h (by omega)
  | succ n ih =>
    intro j x hj hn hno hne
    rw [f_X8_ownerOf_4, lt_eq, h8]
    by_cases g : nk ≤ j
    · rw [if_pos (nI_le g (by omega))]
    · rw [if_neg (nI_ge (by omega) (by omega)), rdA_eq _ j rfl (by omega) (by decide), (hK.1 j (by omega)).2.1, if_neg, lt_eq, nI_1]
      · exact ih (j + 1) x (by omega) (by omega) (fun i h1 h2 => hno i (by omega) h2) hne
      · rw [show (1000 : Int32) = nI 1000 from rfl, nI_add, eqN (by have := gK_rng hK (show j < nk by omega); omega) (by omega)]
        exact hno j (by omega) (by omega)
theorem owner_some {N : Nat} {σ : Sg} {ne nk c t : Nat} {kp kn : Nat → Nat} (h8 : σ 35 8 = nI nk) (hnk : nk ≤ 160) (hne : ne ≤ 60) (hK : gK (σ 42) (σ 43) ne nk kp kn) (hc : c < 200) (ht : t < nk) (htc : kn t = 1000 + c) (K : Int32 → Sg → Option (Int32 × Sg)) : ∀ (n j : Nat) (x : Int32), j ≤ t → nk - j < n → f_X8_ownerOf_4 N (nI c) K n x (nI j) σ = K (nI (kp t)) σ := by
  intro n
  induction n with
  | zero => intro j x _ h; exact absurd h (by omega)
  | succ n ih =>
    intro j x hj hn
    rw [f_X8_ownerOf_4, lt_eq, h8, if_neg (nI_ge (by omega) (by omega)), rdA_eq _ j rfl (by omega) (by decide), (hK.1 j (by omega)).2.1]
    by_cases e : j = t
    · rw [if_pos (by rw [e, htc, show (1000 : Int32) = nI 1000 from rfl, nI_add]), rdA_eq _ j rfl (by omega) (by decide), (hK.1 j (by omega)).1, lt_eq, nI_1, e]
      exact owner_none h8 hnk hK hc K n (t + 1) _ (by omega) (by omega) (fun i h1 h2 h3 => absurd (gK_inj hK h2 ht (by rw [h3, htc])) (by omega)) hne
    · rw [if_neg, lt_eq, nI_1]
      · exact ih (j + 1) x (by omega) (by omega)
      · rw [show (1000 : Int32) = nI 1000 from rfl, nI_add, eqN (by have := gK_rng hK (show j < nk by omega); omega) (by omega)]
        intro h3
        exact e (gK_inj hK (by omega) ht (by rw [h3, htc]))
theorem nd_c (c : Nat) : nd (1000 + c) = 60 + c := by unfold nd; rw [if_neg (by omega)]; omega
/-- who holds a marked part, by either side -/
theorem holder {σ : Sg} {ne nk c : Nat} {kp kn : Nat → Nat} (hK : gK (σ 42) (σ 43) ne nk kp kn) (hne : ne ≤ 60) (hT : gT (σ 5) (σ 6) (σ 7) (σ 8) nk kp kn) (hc : c < 200) : (∃ t, t < nk ∧ kn t = 1000 + c ∧ kp t < ne ∧ σ 7 (60 + c) = nI (kp t)) ∨ ((∀ t, t < nk → kn t ≠ 1000 + c) ∧ σ 7 (60 + c) = -1) := by
  by_cases h : ∃ t, t < nk ∧ kn t = 1000 + c
  · obtain ⟨t, h1, h2⟩ := h
    refine Or.inl ⟨t, h1, h2, (hK.1 t h1).2.2, ?_⟩
    have := hT.2.2.1 t h1
    rw [h2, nd_c] at this
    exact this
  · refine Or.inr ⟨fun t h1 h2 => h ⟨t, h1, h2⟩, (hT.2.2.2.1 (60 + c) (by omega) (fun j hj e => ?_)).1⟩
    rw [← nd_c] at e
    refine h ⟨j, hj, nd_inj (ne := 60) (by omega) ?_ (Or.inr ⟨by omega, by omega⟩) e⟩
    rcases gK_rng hK hj with g | g
    · exact Or.inl ⟨g.1, by omega⟩
    · exact Or.inr g
theorem x8_owner {N : Nat} (hN9 : 200 < N) {σ : Sg} {ne nk c : Nat} {kp kn : Nat → Nat} (h8 : σ 35 8 = nI nk) (hnk : nk ≤ 160) (hne : ne ≤ 60) (hK : gK (σ 42) (σ 43) ne nk kp kn) (hT : gT (σ 5) (σ 6) (σ 7) (σ 8) nk kp kn) (hc : c < 200) : f_X8_ownerOf N (nI c) σ = some (σ 7 (60 + c), σ) := by
  unfold f_X8_ownerOf
  rcases holder hK hne hT hc with ⟨t, h1, h2, _, h3⟩ | ⟨h1, h2⟩
  · rw [← nI_0, owner_some h8 hnk hne hK hc h1 h2 _ N 0 _ (by omega) (by omega), h3]
  · rw [← nI_0, owner_none h8 hnk hK hc _ N 0 _ (by omega) (by omega) (fun i _ h => h1 i h) hne, h2]
theorem x6_holder {N : Nat} {σ : Sg} {c : Nat} (hc : c < 200) : f_X6_holderOf N (nI c) σ = some (σ 7 (60 + c), σ) := by
  rw [f_X6_holderOf, rdA_eq _ (60 + c) (by rw [show (60 : Int32) = nI 60 from rfl, nI_add]) (by omega) (by decide)]
theorem cd_cases (a b : Int32) : (∃ p m : Nat, p < 10 ∧ m < 20 ∧ a = nI p ∧ b = nI m) ∨ (a < 0 ∨ 9 < a) ∨ (¬ a < 0 ∧ ¬ 9 < a ∧ (b < 0 ∨ 19 < b)) := by
  by_cases ha : a < 0 ∨ 9 < a
  · exact Or.inr (Or.inl ha)
  · have h1 : ¬ a < 0 := fun h => ha (Or.inl h)
    have h2 : ¬ 9 < a := fun h => ha (Or.inr h)
    by_cases hb : b < 0 ∨ 19 < b
    · exact Or.inr (Or.inr ⟨h1, h2, hb⟩)
    · obtain ⟨p, _, hp, rfl⟩ := rng 0 9 (by decide) (by decide) (a := a) h1 h2
      obtain ⟨m, _, hm, rfl⟩ := rng 0 19 (by decide) (by decide) (a := b) (fun h => hb (Or.inl h)) (fun h => hb (Or.inr h))
      exact Or.inl ⟨p, m, by omega, by omega, rfl, rfl⟩
theorem le_of_lt9 {a : Int32} (h : 9 < a) : 10 ≤ a := by
  rw [Int32.lt_iff_toInt_lt] at h
  rw [Int32.le_iff_toInt_le]
  have e1 : (9 : Int32).toInt = 9 := by decide
  have e2 : (10 : Int32).toInt = 10 := by decide
  omega
theorem le_of_lt19 {a : Int32} (h : 19 < a) : ¬ a < 20 := by
  rw [Int32.lt_iff_toInt_lt] at h ⊢
  have e1 : (19 : Int32).toInt = 19 := by decide
  have e2 : (20 : Int32).toInt = 20 := by decide
  omega
theorem needC_y {N : Nat} {σ : Sg} {p m : Nat} (hp : p < 10) (hm : m < 20) : f_X7_needCode N (nI p) (nI m) σ = some (.inr (nI (20 * p + m)), σ) := by
  rw [f_X7_needCode, if_neg (nI_pos (by omega)), if_neg, if_neg (nI_pos (by omega)), if_pos]
  · rw [show (20 : Int32) = nI 20 from rfl, nI_mul, nI_add, Nat.mul_comm]
  · rw [show (20 : Int32) = nI 20 from rfl, ltN (by omega) (by decide)]; exact hm
  · rw [show (10 : Int32) = nI 10 from rfl, leN (by decide) (by omega)]; omega
theorem needC_n {N : Nat} {σ : Sg} {a b : Int32} (h : (a < 0 ∨ 9 < a) ∨ (¬ a < 0 ∧ ¬ 9 < a ∧ (b < 0 ∨ 19 < b))) : f_X7_needCode N a b σ = some (.inl "java/lang/IllegalArgumentException", σ) := by
  rw [f_X7_needCode]
  by_cases h1 : a < 0
  · rw [if_pos h1]
  · rw [if_neg h1]
    by_cases h2 : 9 < a
    · rw [if_pos (le_of_lt9 h2)]
    · have h2' : ¬ 10 ≤ a := by
        intro g
        apply h2
        rw [Int32.le_iff_toInt_le] at g
        rw [Int32.lt_iff_toInt_lt]
        have e1 : (9 : Int32).toInt = 9 := by decide
        have e2 : (10 : Int32).toInt = 10 := by decide
        omega
      rw [if_neg h2']
      rcases h with (h | h) | ⟨_, _, h⟩
      · exact absurd h h1
      · exact absurd h h2
      · by_cases h3 : b < 0
        · rw [if_pos h3]
        · rw [if_neg h3, if_neg (le_of_lt19 (h.resolve_left h3))]
theorem isP_y {N : Nat} {σ : Sg} {p m : Nat} (hp : p < 10) (hm : m < 20) : f_X8_isPart N (nI p) (nI m) σ = some (1, σ) := by
  rw [f_X8_isPart, in_yes (nI_pos (by omega)), cI_eq, if_neg (by decide), in_yes (nI_pos (by omega)), cI_eq, if_neg (by decide)]
  · rw [show (19 : Int32) = nI 19 from rfl, ltN (by decide) (by omega)]; omega
  · rw [show (9 : Int32) = nI 9 from rfl, ltN (by decide) (by omega)]; omega
theorem isP_n {N : Nat} {σ : Sg} {a b : Int32} (h : (a < 0 ∨ 9 < a) ∨ (¬ a < 0 ∧ ¬ 9 < a ∧ (b < 0 ∨ 19 < b))) : f_X8_isPart N a b σ = some (0, σ) := by
  rcases h with h | ⟨h1, h2, h3⟩
  · rw [f_X8_isPart, in_no h, cI_eq, if_pos rfl]
  · rw [f_X8_isPart, in_yes h1 h2, cI_eq, if_neg (by decide), in_no h3, cI_eq, if_pos rfl]
theorem code8 (p m : Nat) : 20 * nI p + nI m = nI (20 * p + m) := by
  rw [show (20 : Int32) = nI 20 from rfl, nI_mul, nI_add]
theorem thrP (σ : Sg) : ¬ ss σ 35 0 1 35 0 ≤ 0 := by show ¬ (1 : Int32) ≤ 0; decide
theorem thrP2 (σ : Sg) : ¬ ss σ 35 0 2 35 0 ≤ 0 := by show ¬ (2 : Int32) ≤ 0; decide
theorem thrP3 (σ : Sg) : ¬ ss σ 35 0 3 35 0 ≤ 0 := by show ¬ (3 : Int32) ≤ 0; decide
theorem op_parent {σ : Sg} (hI : Inv σ) {N : Nat} (hN9 : 200 < N) (a b : Int32) : OpOK (f_L_parent N a b) (f_X8_parent N a b) σ := by
  obtain ⟨ne, nk, np, nt, ns, nf, kp, kn, sh, hN, hE, hV, hM, hK, hT, hP, hF⟩ := hI
  have hI1 : ∀ x, Inv (ss σ 35 0 x) := fun x => ⟨ne, nk, np, nt, ns, nf, kp, kn, sh, hN, hE, hV, hM, hK, hT, hP, hF⟩
  have h8 : σ 35 8 = nI nk := hN.2.2.2.2.2.2.1
  have h60 : ne ≤ 60 := hN.2.2.2.2.2.2.2.2.2.2.2.1
  have hnk : nk ≤ 160 := by have := hN.2.2.2.2.2.2.2.2.2.2.2.2; omega
  rcases cd_cases a b with ⟨p, m, hp, hm, rfl, rfl⟩ | h
  · refine ⟨0, ss σ 34 0 (σ 7 (60 + (20 * p + m))), σ 7 (60 + (20 * p + m)), ss (ss σ 34 0 (σ 7 (60 + (20 * p + m)))) 35 0 0, ?_, ?_, rfl, fun _ => rfl, ⟨ne, nk, np, nt, ns, nf, kp, kn, sh, hN, hE, hV, hM, hK, hT, hP, hF⟩⟩
    · rw [f_L_parent, f_X7_parent, needC_y hp hm, cT_r, x6_holder (by omega), cI_eq]
      rfl
    · rw [f_X8_parent, isP_y hp hm, cI_eq, if_neg (by decide), st_eq, lt_eq, if_pos (thr0 _), code8, x8_owner hN9 (σ := ss (ss σ 34 0 (σ 7 (60 + (20 * p + m)))) 35 0 0) (ne := ne) h8 hnk h60 hK hT (by omega), cI_eq]
      rfl
  · refine ⟨1, σ, 0, ss σ 35 0 1, ?_, ?_, rfl, fun h => absurd h (by decide), hI1 1⟩
    · rw [f_L_parent, f_X7_parent, needC_n h]
      rfl
    · rw [f_X8_parent, isP_n h, cI_eq, if_pos rfl, st_eq, lt_eq, if_neg (thrP _)]
