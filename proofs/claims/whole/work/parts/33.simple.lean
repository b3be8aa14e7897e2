theorem needE_no {N : Nat} {a : Int32} {σ : Sg} {ne : Nat} (h1 : σ 3 6 = nI ne) (h : a < 0 ∨ nI ne ≤ a) : f_X7_needElement N a σ = some (.inl "java/util/NoSuchElementException", σ) := by
  unfold f_X7_needElement
  by_cases ha : a < 0
  · rw [if_pos ha]
  · rw [if_neg ha, lt_eq, h1, if_neg]
    rcases h with h | h
    · exact absurd h ha
    · intro g
      have := Int32.lt_iff_toInt_lt.mp g
      have := Int32.le_iff_toInt_le.mp h
      omega
theorem needE_yes {N : Nat} {σ : Sg} {ne j : Nat} (h1 : σ 3 6 = nI ne) (hne : ne ≤ 60) (hj : j < ne) : f_X7_needElement N (nI j) σ = some (.inr 0, σ) := by
  unfold f_X7_needElement
  rw [if_neg (nI_pos (by omega)), lt_eq, h1, if_pos (nI_lt hj (by omega))]
theorem isE_no {N : Nat} {a : Int32} {σ : Sg} {ne : Nat} (h1 : σ 35 1 = nI ne) (h : a < 0 ∨ nI ne ≤ a) : f_X8_isElement N a σ = some (0, σ) := by
  unfold f_X8_isElement
  by_cases ha : a < 0
  · rw [if_pos ha]
  · rw [if_neg ha, lt_eq, h1, if_pos]
    rcases h with h | h
    · exact absurd h ha
    · exact h
theorem isE_yes {N : Nat} {σ : Sg} {ne j : Nat} (h1 : σ 35 1 = nI ne) (hne : ne ≤ 60) (hj : j < ne) : f_X8_isElement N (nI j) σ = some (1, σ) := by
  unfold f_X8_isElement
  rw [if_neg (nI_pos (by omega)), lt_eq, h1, if_neg (nI_ge hj (by omega))]
theorem el_cases (a : Int32) {ne : Nat} (hne : ne ≤ 60) : (a < 0 ∨ nI ne ≤ a) ∨ ∃ j : Nat, j < ne ∧ a = nI j := by
  rcases pk_ix a (n := ne) (by omega) with h | h | h
  · exact Or.inl (Or.inl h)
  · exact Or.inl (Or.inr h)
  · exact Or.inr h
theorem thr0 (σ : Sg) : ss σ 35 0 0 35 0 ≤ 0 := by show (0 : Int32) ≤ 0; decide
theorem in_no {N : Nat} {a lo hi : Int32} {σ : Sg} (h : a < lo ∨ hi < a) : f_X8_in N a lo hi σ = some (0, σ) := by
  unfold f_X8_in
  by_cases h1 : a < lo
  · rw [if_pos h1]
  · rw [if_neg h1, if_pos (h.resolve_left h1)]
theorem in_yes {N : Nat} {a lo hi : Int32} {σ : Sg} (h1 : ¬ a < lo) (h2 : ¬ hi < a) : f_X8_in N a lo hi σ = some (1, σ) := by
  unfold f_X8_in
  rw [if_neg h1, if_neg h2]
theorem le_of_nlt {a b : Int32} (h : ¬ a < b) : b ≤ a := by
  rw [Int32.le_iff_toInt_le]
  rw [Int32.lt_iff_toInt_lt] at h
  omega
theorem nle_of_lt {a b : Int32} (h : a < b) : ¬ b ≤ a := by
  rw [Int32.le_iff_toInt_le]
  rw [Int32.lt_iff_toInt_lt] at h
  omega
theorem rng {a : Int32} (lo hi : Nat) (hl : lo < 2 ^ 31) (hh : hi < 2 ^ 31) (h1 : ¬ a < nI lo) (h2 : ¬ nI hi < a) : ∃ v : Nat, lo ≤ v ∧ v ≤ hi ∧ a = nI v := by
  rcases i32_cases a with h | ⟨j, hj, rfl⟩
  · exfalso
    apply h1
    rw [Int32.lt_iff_toInt_lt] at h ⊢
    have e0 : (0 : Int32).toInt = 0 := by decide
    rw [nI_toInt hl]; omega
  · rw [ltN hj hl] at h1
    rw [ltN hh hj] at h2
    exact ⟨j, by omega, by omega, rfl⟩
theorem op_heading {σ : Sg} (hI : Inv σ) (N : Nat) (a b : Int32) : OpOK (f_L_heading N a b) (f_X8_heading N a b) σ := by
  obtain ⟨ne, nk, np, nt, ns, nf, kp, kn, sh, hN, hE, hV, hM, hK, hT, hP, hF⟩ := hI
  have h1 := hN.1
  have h2 := hN.2.1
  have h60 : ne ≤ 60 := hN.2.2.2.2.2.2.2.2.2.2.2.1
  rcases el_cases a h60 with ha | ⟨j, hj, rfl⟩
  · refine ⟨1, σ, 0, ss σ 35 0 1, ?_, ?_, rfl, fun h => absurd h (by decide), ?_⟩
    · simp [f_L_heading, f_X7_heading, needE_no h1 ha, cT, cC]
    · simp [f_X8_heading, isE_no h2 ha, cI, lt, st, ss, upd]
    · exact ⟨ne, nk, np, nt, ns, nf, kp, kn, sh, hN, hE, hV, hM, hK, hT, hP, hF⟩
  · by_cases hb : b < 1 ∨ 6 < b
    · refine ⟨2, σ, 0, ss σ 35 0 2, ?_, ?_, rfl, fun h => absurd h (by decide), ?_⟩
      · by_cases hb1 : b < 1
        · simp [f_L_heading, f_X7_heading, needE_yes h1 h60 hj, cT, cC, hb1]
        · simp [f_L_heading, f_X7_heading, needE_yes h1 h60 hj, cT, cC, hb1, nle_of_lt (hb.resolve_left hb1)]
      · simp [f_X8_heading, isE_yes h2 h60 hj, in_no hb, cI, lt, st, ss, upd]
      · exact ⟨ne, nk, np, nt, ns, nf, kp, kn, sh, hN, hE, hV, hM, hK, hT, hP, hF⟩
    · have hb1 : ¬ b < 1 := fun h => hb (Or.inl h)
      have hb2 : ¬ 6 < b := fun h => hb (Or.inr h)
      obtain ⟨v, hv1, hv2, hv⟩ := rng 1 6 (by decide) (by decide) hb1 hb2
      refine ⟨0, ss (ss σ 26 j b) 34 0 (σ 26 j), σ 37 j, ss (ss (ss (ss σ 26 j b) 34 0 (σ 26 j)) 35 0 0) 37 j b, ?_, ?_, rfl, fun _ => ?_, ?_⟩
      · simp only [f_L_heading, f_X7_heading, needE_yes h1 h60 hj, cT, if_neg hb1, if_pos (le_of_nlt hb2)]
        rw [rdA_eq _ j rfl (by omega) (by decide), wrA_eq _ _ _ j rfl (by omega) (by decide)]
        rfl
      · rw [f_X8_heading, isE_yes (σ := ss (ss σ 26 j b) 34 0 (σ 26 j)) h2 h60 hj, cI_eq, if_neg (by decide), in_yes hb1 hb2, cI_eq, if_neg (by decide), st_eq, lt_eq, if_pos (thr0 _), rdA_eq _ j rfl (by omega) (by decide), wrA_eq _ _ _ j rfl (by omega) (by decide)]
        rfl
      · show σ 26 j = σ 37 j
        rw [hE.2.1]
      · refine ⟨ne, nk, np, nt, ns, nf, kp, kn, sh, hN, ⟨hE.1, ?_, hE.2.2⟩, ⟨hV.1, hV.2.1, fun e he => ?_, hV.2.2.2⟩, hM, hK, hT, hP, hF⟩
        · show upd (σ 26) j b = upd (σ 37) j b
          rw [hE.2.1]
        · show ∃ v : Nat, v ≤ 6 ∧ upd (σ 37) j b e = nI v
          by_cases hej : e = j
          · subst hej; exact ⟨v, hv2, by rw [upd_s, hv]⟩
          · rw [upd_n hej]; exact hV.2.2.1 e he
theorem nar_b {b : Int32} (hb : b = 0 ∨ b = 1) : vp_nar .boolean b = b := by
  rcases hb with rfl | rfl <;> rfl
theorem op_words {σ : Sg} (hI : Inv σ) (N : Nat) (a b : Int32) (hb : b = 0 ∨ b = 1) : OpOK (f_L_words N a b) (f_X8_words N a b) σ := by
  obtain ⟨ne, nk, np, nt, ns, nf, kp, kn, sh, hN, hE, hV, hM, hK, hT, hP, hF⟩ := hI
  have h1 := hN.1
  have h2 := hN.2.1
  have h60 : ne ≤ 60 := hN.2.2.2.2.2.2.2.2.2.2.2.1
  rcases el_cases a h60 with ha | ⟨j, hj, rfl⟩
  · refine ⟨1, σ, 0, ss σ 35 0 1, ?_, ?_, rfl, fun h => absurd h (by decide), ?_⟩
    · simp [f_L_words, f_X7_words, needE_no h1 ha, cT, cC]
    · simp [f_X8_words, isE_no h2 ha, cI, lt, st, ss, upd]
    · exact ⟨ne, nk, np, nt, ns, nf, kp, kn, sh, hN, hE, hV, hM, hK, hT, hP, hF⟩
  · have hw : σ 27 j = σ 38 j := by rw [hE.2.2.1]
    refine ⟨0, ss (ss σ 27 j b) 34 0 (if σ 27 j = 0 then 0 else 1), (if σ 27 j = 0 then 0 else 1), ss (ss (ss (ss σ 27 j b) 34 0 (if σ 27 j = 0 then 0 else 1)) 35 0 0) 38 j b, ?_, ?_, rfl, fun _ => rfl, ?_⟩
    · simp only [f_L_words, f_X7_words, needE_yes h1 h60 hj, cT, nar_b hb]
      rw [rdA_eq _ j rfl (by omega) (by decide)]
      by_cases h0 : σ 27 j = 0
      · rw [if_pos h0, if_pos h0, wrA_eq _ _ _ j rfl (by omega) (by decide)]; rfl
      · rw [if_neg h0, if_neg h0, wrA_eq _ _ _ j rfl (by omega) (by decide)]; rfl
    · rw [f_X8_words, isE_yes (σ := ss (ss σ 27 j b) 34 0 (if σ 27 j = 0 then 0 else 1)) h2 h60 hj, cI_eq, if_neg (by decide), st_eq, lt_eq, if_pos (thr0 _), rdA_eq _ j rfl (by omega) (by decide), nar_b hb]
      show (if σ 38 j = 0 then _ else _) = _
      rw [hw]
      by_cases h0 : σ 38 j = 0
      · rw [if_pos h0, if_pos h0, wrA_eq _ _ _ j rfl (by omega) (by decide)]
      · rw [if_neg h0, if_neg h0, wrA_eq _ _ _ j rfl (by omega) (by decide)]
    · refine ⟨ne, nk, np, nt, ns, nf, kp, kn, sh, hN, ⟨hE.1, hE.2.1, ?_, hE.2.2.2⟩, ⟨hV.1, hV.2.1, hV.2.2.1, fun e he => ?_, hV.2.2.2.2⟩, hM, hK, hT, hP, hF⟩
      · show upd (σ 27) j b = upd (σ 38) j b
        rw [hE.2.2.1]
      · show upd (σ 38) j b e = 0 ∨ upd (σ 38) j b e = 1
        by_cases hej : e = j
        · subst hej; rw [upd_s]; exact hb
        · rw [upd_n hej]; exact hV.2.2.2.1 e he
theorem op_span {σ : Sg} (hI : Inv σ) (N : Nat) (a b d : Int32) : OpOK (f_L_span N a b d) (f_X8_span N a b d) σ := by
  obtain ⟨ne, nk, np, nt, ns, nf, kp, kn, sh, hN, hE, hV, hM, hK, hT, hP, hF⟩ := hI
  have h1 := hN.1
  have h2 := hN.2.1
  have h60 : ne ≤ 60 := hN.2.2.2.2.2.2.2.2.2.2.2.1
  rcases el_cases a h60 with ha | ⟨j, hj, rfl⟩
  · refine ⟨1, σ, 0, ss σ 35 0 1, ?_, ?_, rfl, fun h => absurd h (by decide), ?_⟩
    · simp [f_L_span, f_X7_span, needE_no h1 ha, cT, cC]
    · simp [f_X8_span, isE_no h2 ha, cI, lt, st, ss, upd]
    · exact ⟨ne, nk, np, nt, ns, nf, kp, kn, sh, hN, hE, hV, hM, hK, hT, hP, hF⟩
  · by_cases hb : b < 1 ∨ 8 < b
    · refine ⟨2, σ, 0, ss σ 35 0 2, ?_, ?_, rfl, fun h => absurd h (by decide), ?_⟩
      · by_cases hb1 : b < 1
        · simp [f_L_span, f_X7_span, needE_yes h1 h60 hj, cT, cC, hb1]
        · simp [f_L_span, f_X7_span, needE_yes h1 h60 hj, cT, cC, hb1, hb.resolve_left hb1]
      · simp [f_X8_span, isE_yes h2 h60 hj, in_no hb, cI, lt, st, ss, upd]
      · exact ⟨ne, nk, np, nt, ns, nf, kp, kn, sh, hN, hE, hV, hM, hK, hT, hP, hF⟩
    · have hb1 : ¬ b < 1 := fun h => hb (Or.inl h)
      have hb2 : ¬ 8 < b := fun h => hb (Or.inr h)
      by_cases hd : d < 1 ∨ 8 < d
      · refine ⟨2, σ, 0, ss σ 35 0 2, ?_, ?_, rfl, fun h => absurd h (by decide), ?_⟩
        · by_cases hd1 : d < 1
          · simp [f_L_span, f_X7_span, needE_yes h1 h60 hj, cT, cC, hb1, hb2, hd1]
          · simp [f_L_span, f_X7_span, needE_yes h1 h60 hj, cT, cC, hb1, hb2, hd1, nle_of_lt (hd.resolve_left hd1)]
        · simp [f_X8_span, isE_yes h2 h60 hj, in_yes hb1 hb2, in_no hd, cI, lt, st, ss, upd]
        · exact ⟨ne, nk, np, nt, ns, nf, kp, kn, sh, hN, hE, hV, hM, hK, hT, hP, hF⟩
      · have hd1 : ¬ d < 1 := fun h => hd (Or.inl h)
        have hd2 : ¬ 8 < d := fun h => hd (Or.inr h)
        obtain ⟨v, hv1, hv2, hv⟩ := rng 1 8 (by decide) (by decide) hb1 hb2
        obtain ⟨w, hw1, hw2, hw⟩ := rng 1 8 (by decide) (by decide) hd1 hd2
        refine ⟨0, ss (ss (ss σ 28 j b) 29 j d) 34 0 (10 * σ 28 j + σ 29 j), 10 * σ 39 j + σ 40 j, ss (ss (ss (ss (ss (ss σ 28 j b) 29 j d) 34 0 (10 * σ 28 j + σ 29 j)) 35 0 0) 39 j b) 40 j d, ?_, ?_, rfl, fun _ => ?_, ?_⟩
        · simp only [f_L_span, f_X7_span, needE_yes h1 h60 hj, cT, if_neg hb1, if_neg hb2, if_neg hd1, if_pos (le_of_nlt hd2)]
          rw [rdA_eq _ j rfl (by omega) (by decide), rdA_eq _ j rfl (by omega) (by decide), lt_eq, wrA_eq _ _ _ j rfl (by omega) (by decide), wrA_eq _ _ _ j rfl (by omega) (by decide)]
          rfl
        · rw [f_X8_span, isE_yes (σ := ss (ss (ss σ 28 j b) 29 j d) 34 0 (10 * σ 28 j + σ 29 j)) h2 h60 hj, cI_eq, if_neg (by decide), in_yes hb1 hb2, cI_eq, if_neg (by decide), in_yes hd1 hd2, cI_eq, if_neg (by decide), st_eq, lt_eq, if_pos (thr0 _), rdA_eq _ j rfl (by omega) (by decide), rdA_eq _ j rfl (by omega) (by decide), lt_eq, wrA_eq _ _ _ j rfl (by omega) (by decide), wrA_eq _ _ _ j rfl (by omega) (by decide)]
          rfl
        · show 10 * σ 28 j + σ 29 j = 10 * σ 39 j + σ 40 j
          rw [hE.2.2.2.1, hE.2.2.2.2.1]
        · refine ⟨ne, nk, np, nt, ns, nf, kp, kn, sh, hN, ⟨hE.1, hE.2.1, hE.2.2.1, ?_, ?_, hE.2.2.2.2.2⟩, ⟨hV.1, hV.2.1, hV.2.2.1, hV.2.2.2.1, fun e he => ?_, fun e he => ?_⟩, hM, hK, hT, hP, hF⟩
          · show upd (σ 28) j b = upd (σ 39) j b
            rw [hE.2.2.2.1]
          · show upd (σ 29) j d = upd (σ 40) j d
            rw [hE.2.2.2.2.1]
          · show ∃ v : Nat, 1 ≤ v ∧ v ≤ 8 ∧ upd (σ 39) j b e = nI v
            by_cases hej : e = j
            · subst hej; exact ⟨v, hv1, hv2, by rw [upd_s, hv]⟩
            · rw [upd_n hej]; exact hV.2.2.2.2.1 e he
          · show ∃ v : Nat, 1 ≤ v ∧ v ≤ 8 ∧ upd (σ 40) j d e = nI v
            by_cases hej : e = j
            · subst hej; exact ⟨w, hw1, hw2, by rw [upd_s, hw]⟩
            · rw [upd_n hej]; exact hV.2.2.2.2.2 e he
theorem needW_no {N : Nat} {a : Int32} {σ : Sg} (h : a < 0 ∨ 2 < a) : f_X7_needWhat N a σ = some (.inl "java/lang/IndexOutOfBoundsException", σ) := by
  unfold f_X7_needWhat
  by_cases h1 : a < 0
  · rw [if_pos h1]
  · rw [if_neg h1, if_neg (nle_of_lt (h.resolve_left h1))]
theorem needW_yes {N : Nat} {a : Int32} {σ : Sg} (h1 : ¬ a < 0) (h2 : ¬ 2 < a) : f_X7_needWhat N a σ = some (.inr 0, σ) := by
  unfold f_X7_needWhat
  rw [if_neg h1, if_pos (le_of_nlt h2)]
theorem nI_m1 {n : Nat} (h : 0 < n) : nI n - 1 = nI (n - 1) := by
  obtain ⟨m, rfl⟩ : ∃ m, n = m + 1 := ⟨n - 1, by omega⟩
  exact nI_pred m
theorem op_fault {σ : Sg} (hI : Inv σ) (N : Nat) (a b : Int32) : OpOK (f_L_fault N a b) (f_X8_fault N a b) σ := by
  obtain ⟨ne, nk, np, nt, ns, nf, kp, kn, sh, hN, hE, hV, hM, hK, hT, hP, hF⟩ := hI
  have h1 : σ 22 3 = nI nf := hN.2.2.2.2.2.2.2.2.1
  have h2 : σ 35 25 = nI nf := hN.2.2.2.2.2.2.2.2.2.1
  have hnf : nf ≤ 700 := hN.2.2.2.2.2.2.2.2.2.2.2.2.2.2.2.1
  have hin : ∀ {a : Int32}, (a < 0 ∨ nI nf ≤ a) → (a < 0 ∨ nI nf - 1 < a) := by
    intro a h
    rcases h with h | h
    · exact Or.inl h
    · by_cases ha : a < 0
      · exact Or.inl ha
      · refine Or.inr ?_
        obtain ⟨i, hi, rfl⟩ := nI_of ha
        rw [leN (by omega) hi] at h
        rw [Int32.lt_iff_toInt_lt, nI_toInt hi]
        by_cases h0 : nf = 0
        · subst h0
          have : (nI 0 - 1).toInt = -1 := by decide
          omega
        · rw [nI_m1 (by omega), nI_toInt (by omega)]
          omega
  rcases pk_ix a (n := nf) (by omega) with ha | ha | ⟨i, hi, rfl⟩
  · refine ⟨1, σ, 0, ss σ 35 0 1, ?_, ?_, rfl, fun h => absurd h (by decide), ⟨ne, nk, np, nt, ns, nf, kp, kn, sh, hN, hE, hV, hM, hK, hT, hP, hF⟩⟩
    · by_cases hb : b < 0 ∨ 2 < b
      · simp [f_L_fault, f_X7_fault, needW_no hb, cT, cC]
      · simp [f_L_fault, f_X7_fault, needW_yes (fun h => hb (Or.inl h)) (fun h => hb (Or.inr h)), cT, cC, ha]
    · rw [f_X8_fault, lt_eq, h2, in_no (hin (Or.inl ha))]
      simp [cI, lt, st, ss, upd]
  · refine ⟨1, σ, 0, ss σ 35 0 1, ?_, ?_, rfl, fun h => absurd h (by decide), ⟨ne, nk, np, nt, ns, nf, kp, kn, sh, hN, hE, hV, hM, hK, hT, hP, hF⟩⟩
    · by_cases hb : b < 0 ∨ 2 < b
      · simp [f_L_fault, f_X7_fault, needW_no hb, cT, cC]
      · by_cases ha0 : a < 0
        · simp [f_L_fault, f_X7_fault, needW_yes (fun h => hb (Or.inl h)) (fun h => hb (Or.inr h)), cT, cC, ha0]
        · have : ¬ a < nI nf := fun g => nle_of_lt g ha
          simp [f_L_fault, f_X7_fault, needW_yes (fun h => hb (Or.inl h)) (fun h => hb (Or.inr h)), cT, cC, ha0, lt, h1, this]
    · rw [f_X8_fault, lt_eq, h2, in_no (hin (Or.inr ha))]
      simp [cI, lt, st, ss, upd]
  · have ha0 : ¬ nI i < 0 := nI_pos (by omega)
    have ha1 : nI i < nI nf := nI_lt hi (by omega)
    have ha2 : ¬ nI nf - 1 < nI i := by
      rw [nI_m1 (by omega), ltN (by omega) (by omega)]
      omega
    by_cases hb : b < 0 ∨ 2 < b
    · refine ⟨1, σ, 0, ss σ 35 0 1, ?_, ?_, rfl, fun h => absurd h (by decide), ⟨ne, nk, np, nt, ns, nf, kp, kn, sh, hN, hE, hV, hM, hK, hT, hP, hF⟩⟩
      · simp [f_L_fault, f_X7_fault, needW_no hb, cT, cC]
      · rw [f_X8_fault, lt_eq, h2, in_yes ha0 ha2, cI_eq, if_neg (by decide), in_no hb]
        simp [cI, lt, st, ss, upd]
    · have hb1 : ¬ b < 0 := fun h => hb (Or.inl h)
      have hb2 : ¬ 2 < b := fun h => hb (Or.inr h)
      obtain ⟨e1, e2, e3⟩ := hF i hi
      obtain ⟨x, hx⟩ : ∃ x, x = (if b = 0 then σ 23 i else if b = 1 then σ 24 i else σ 25 i) := ⟨_, rfl⟩
      refine ⟨0, ss σ 34 0 x, x, ss (ss σ 34 0 x) 35 0 0, ?_, ?_, rfl, fun _ => rfl, ⟨ne, nk, np, nt, ns, nf, kp, kn, sh, hN, hE, hV, hM, hK, hT, hP, hF⟩⟩
      · rw [f_L_fault, f_X7_fault, needW_yes hb1 hb2, cT_r, if_neg ha0, lt_eq, h1, if_pos ha1]
        by_cases g0 : b = 0
        · rw [if_pos g0] at hx ⊢
          rw [rdA_eq _ i rfl (by omega) (by decide), ← hx]; rfl
        · rw [if_neg g0] at hx ⊢
          by_cases g1 : b = 1
          · rw [if_pos g1] at hx ⊢
            rw [rdA_eq _ i rfl (by omega) (by decide), ← hx]; rfl
          · rw [if_neg g1] at hx ⊢
            rw [rdA_eq _ i rfl (by omega) (by decide), ← hx]; rfl
      · rw [f_X8_fault, lt_eq]
        show cI (f_X8_in N (nI i) 0 (σ 35 25 - 1) _) _ = _
        rw [h2, in_yes ha0 ha2, cI_eq, if_neg (by decide), in_yes hb1 hb2, cI_eq, if_neg (by decide), st_eq, lt_eq, if_pos (thr0 _)]
        by_cases g0 : b = 0
        · rw [if_pos g0] at hx ⊢
          rw [rdA_eq _ i rfl (by omega) (by decide), hx, e1]; rfl
        · rw [if_neg g0] at hx ⊢
          by_cases g1 : b = 1
          · rw [if_pos g1] at hx ⊢
            rw [rdA_eq _ i rfl (by omega) (by decide), hx, e2]; rfl
          · rw [if_neg g1] at hx ⊢
            rw [rdA_eq _ i rfl (by omega) (by decide), hx, e3]; rfl
