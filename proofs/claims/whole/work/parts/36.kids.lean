theorem nx_spec (kp : Nat → Nat) (nk e : Nat) : ∀ n j, n = nk - j → (nx kp nk e n j < nk ∧ j ≤ nx kp nk e n j ∧ kp (nx kp nk e n j) = e ∧ ∀ i, j ≤ i → i < nx kp nk e n j → kp i ≠ e) ∨ (¬ nx kp nk e n j < nk ∧ ∀ i, j ≤ i → i < nk → kp i ≠ e) := by
  intro n
  induction n with
  | zero =>
    intro j h
    refine Or.inr ⟨?_, fun i h1 h2 => absurd h2 (by omega)⟩
    show ¬ j < nk
    omega
  | succ n ih =>
    intro j h
    have hj : j < nk := by omega
    rw [nx, if_pos hj]
    by_cases g : kp j = e
    · rw [if_pos g]
      exact Or.inl ⟨hj, Nat.le_refl _, g, fun i h1 h2 => absurd h2 (by omega)⟩
    · rw [if_neg g]
      rcases ih (j + 1) (by omega) with ⟨h1, h2, h3, h4⟩ | ⟨h1, h2⟩
      · refine Or.inl ⟨h1, by omega, h3, fun i h5 h6 => ?_⟩
        by_cases e1 : i = j
        · rw [e1]; exact g
        · exact h4 i (by omega) h6
      · refine Or.inr ⟨h1, fun i h5 h6 => ?_⟩
        by_cases e1 : i = j
        · rw [e1]; exact g
        · exact h2 i (by omega) h6
theorem lnk_cases (kp kn : Nat → Nat) (nk e j : Nat) : (∃ t, j ≤ t ∧ t < nk ∧ kp t = e ∧ (∀ i, j ≤ i → i < t → kp i ≠ e) ∧ lnk kp kn nk e j = nI (nd (kn t))) ∨ ((∀ i, j ≤ i → i < nk → kp i ≠ e) ∧ lnk kp kn nk e j = -1) := by
  unfold lnk nxt
  rcases nx_spec kp nk e (nk - j) j rfl with ⟨h1, h2, h3, h4⟩ | ⟨h1, h2⟩
  · exact Or.inl ⟨_, h2, h1, h3, h4, by rw [if_pos h1]⟩
  · exact Or.inr ⟨h2, by rw [if_neg h1]⟩
theorem lnk_some {kp kn : Nat → Nat} {nk e j t : Nat} (h1 : j ≤ t) (h2 : t < nk) (h3 : kp t = e) (h4 : ∀ i, j ≤ i → i < t → kp i ≠ e) : lnk kp kn nk e j = nI (nd (kn t)) := by
  rcases lnk_cases kp kn nk e j with ⟨s, g1, g2, g3, g4, g5⟩ | ⟨g1, g2⟩
  · have : s = t := by
      rcases Nat.lt_trichotomy s t with h | h | h
      · exact absurd g3 (h4 s g1 h)
      · exact h
      · exact absurd h3 (g4 t h1 h)
    rw [g5, this]
  · exact absurd h3 (g1 t h1 h2)
theorem lnk_none {kp kn : Nat → Nat} {nk e j : Nat} (h : ∀ i, j ≤ i → i < nk → kp i ≠ e) : lnk kp kn nk e j = -1 := by
  rcases lnk_cases kp kn nk e j with ⟨s, g1, g2, g3, g4, g5⟩ | ⟨g1, g2⟩
  · exact absurd g3 (h s g1 g2)
  · exact g2
/-- one more value of a list of numbers -/
def up (f : Nat → Nat) (n x : Nat) : Nat → Nat := fun j => if j = n then x else f j
theorem up_s {f : Nat → Nat} {n x : Nat} : up f n x n = x := by unfold up; rw [if_pos rfl]
theorem up_n {f : Nat → Nat} {n x j : Nat} (h : j ≠ n) : up f n x j = f j := by unfold up; rw [if_neg h]
theorem lnk_add1 {kp kn : Nat → Nat} {nk p v e j : Nat} (h : ∃ i, j ≤ i ∧ i < nk ∧ kp i = e) : lnk (up kp nk p) (up kn nk v) (nk + 1) e j = lnk kp kn nk e j := by
  rcases lnk_cases kp kn nk e j with ⟨s, g1, g2, g3, g4, g5⟩ | ⟨g1, g2⟩
  · rw [g5, lnk_some (t := s) g1 (by omega) (by rw [up_n (by omega)]; exact g3) (fun i h1 h2 => by rw [up_n (by omega)]; exact g4 i h1 h2), up_n (by omega)]
  · obtain ⟨i, h1, h2, h3⟩ := h
    exact absurd h3 (g1 i h1 h2)
theorem lnk_add2 {kp kn : Nat → Nat} {nk p v j : Nat} (hj : j ≤ nk) (h : ∀ i, j ≤ i → i < nk → kp i ≠ p) : lnk (up kp nk p) (up kn nk v) (nk + 1) p j = nI (nd v) := by
  rw [lnk_some (t := nk) hj (by omega) up_s (fun i h1 h2 => by rw [up_n (by omega)]; exact h i h1 h2), up_s]
theorem lnk_add3 {kp kn : Nat → Nat} {nk p v e j : Nat} (he : e ≠ p) : lnk (up kp nk p) (up kn nk v) (nk + 1) e j = lnk kp kn nk e j := by
  by_cases h : ∃ i, j ≤ i ∧ i < nk ∧ kp i = e
  · exact lnk_add1 h
  · rw [lnk_none (kn := kn) (fun i h1 h2 h3 => h ⟨i, h1, h2, h3⟩), lnk_none]
    intro i h1 h2
    by_cases e1 : i = nk
    · rw [e1, up_s]; exact fun h9 => he h9.symm
    · rw [up_n e1]; exact fun h3 => h ⟨i, h1, by omega, h3⟩
theorem nd_lt {ne v : Nat} (hne : ne ≤ 60) (h : (1 ≤ v ∧ v < ne) ∨ (1000 ≤ v ∧ v < 1200)) : 1 ≤ nd v ∧ nd v < 260 := by
  unfold nd
  by_cases g : v < 1000
  · rw [if_pos g]; omega
  · rw [if_neg g]; omega
theorem nd_inj {ne v w : Nat} (hne : ne ≤ 60) (h : (1 ≤ v ∧ v < ne) ∨ (1000 ≤ v ∧ v < 1200)) (h' : (1 ≤ w ∧ w < ne) ∨ (1000 ≤ w ∧ w < 1200)) (e : nd v = nd w) : v = w := by
  unfold nd at e
  by_cases g : v < 1000
  · rw [if_pos g] at e
    by_cases g' : w < 1000
    · rw [if_pos g'] at e; exact e
    · rw [if_neg g'] at e; omega
  · rw [if_neg g] at e
    by_cases g' : w < 1000
    · rw [if_pos g'] at e; omega
    · rw [if_neg g'] at e; omega
theorem add_gT {fk lk pa nx' : Nat → Int32} {nk p v : Nat} {kp kn : Nat → Nat} (hT : gT fk lk pa nx' nk kp kn) (hn : ∀ j, j < nk → nd (kn j) < 260) (hv : nd v < 260) (hinj : ∀ i j, i < nk → j < nk → nd (kn i) = nd (kn j) → i = j) (hnew : ∀ j, j < nk → nd (kn j) ≠ nd v) {fk' nx'' : Nat → Int32} (h9 : (lk p = -1 ∧ fk' = upd fk p (nI (nd v)) ∧ nx'' = nx') ∨ (∃ l, lk p = nI l ∧ l < 260 ∧ fk' = fk ∧ nx'' = upd nx' l (nI (nd v)))) (hp : p < 60) : gT fk' (upd lk p (nI (nd v))) (upd pa (nd v) (nI p)) nx'' (nk + 1) (up kp nk p) (up kn nk v) := by
  obtain ⟨t1, t2, t3, t4, t5⟩ := hT
  have hlast : (lk p = -1 ∧ fk' = upd fk p (nI (nd v)) ∧ nx'' = nx' ∧ ∀ j, j < nk → kp j ≠ p) ∨ (∃ j, j < nk ∧ kp j = p ∧ (∀ i, j < i → i < nk → kp i ≠ p) ∧ fk' = fk ∧ nx'' = upd nx' (nd (kn j)) (nI (nd v))) := by
    rcases t2 p hp with ⟨h1, h2⟩ | ⟨j, h1, h2, h3, h4⟩
    · rcases h9 with ⟨g1, g2, g3⟩ | ⟨l, g1, g2, g3, g4⟩
      · exact Or.inl ⟨g1, g2, g3, h2⟩
      · rw [h1] at g1; exact absurd g1.symm (m1_ne (by omega))
    · rcases h9 with ⟨g1, g2, g3⟩ | ⟨l, g1, g2, g3, g4⟩
      · rw [h4] at g1; exact absurd g1 (m1_ne (by have := hn j h1; omega))
      · rw [h4, eqN (by have := hn j h1; omega) (by omega)] at g1
        exact Or.inr ⟨j, h1, h2, h3, g3, by rw [g4, g1]⟩
  refine ⟨fun e he => ?_, fun e he => ?_, fun j hj => ?_, fun w hw hno => ?_, fun j hj => ?_⟩
  · by_cases hep : e = p
    · rw [hep]
      rcases hlast with ⟨g1, g2, g3, g4⟩ | ⟨j, g1, g2, g3, g4, g5⟩
      · rw [g2, upd_s, lnk_add2 (by omega) (fun i _ h => g4 i h)]
      · rw [g4, lnk_add1 ⟨j, by omega, g1, g2⟩]; exact t1 p hp
    · rw [lnk_add3 hep]
      rcases hlast with ⟨g1, g2, g3, g4⟩ | ⟨j, g1, g2, g3, g4, g5⟩
      · rw [g2, upd_n hep]; exact t1 e he
      · rw [g4]; exact t1 e he
  · by_cases hep : e = p
    · rw [hep, upd_s]
      exact Or.inr ⟨nk, by omega, up_s, fun i h1 h2 => absurd h2 (by omega), by rw [up_s]⟩
    · rw [upd_n hep]
      rcases t2 e he with ⟨h1, h2⟩ | ⟨j, h1, h2, h3, h4⟩
      · refine Or.inl ⟨h1, fun j hj => ?_⟩
        by_cases e1 : j = nk
        · rw [e1, up_s]; exact fun g => hep g.symm
        · rw [up_n e1]; exact h2 j (by omega)
      · refine Or.inr ⟨j, by omega, by rw [up_n (by omega)]; exact h2, fun i g1 g2 => ?_, by rw [up_n (by omega)]; exact h4⟩
        by_cases e1 : i = nk
        · rw [e1, up_s]; exact fun g => hep g.symm
        · rw [up_n e1]; exact h3 i g1 (by omega)
  · by_cases e1 : j = nk
    · rw [e1, up_s, up_s, upd_s]
    · rw [up_n e1, up_n e1, upd_n (hnew j (by omega))]; exact t3 j (by omega)
  · have h1 : w ≠ nd v := fun g => hno nk (by omega) (by rw [up_s]; exact g.symm)
    have h2 : ∀ j, j < nk → nd (kn j) ≠ w := fun j hj => by have := hno j (by omega); rw [up_n (by omega)] at this; exact this
    rw [upd_n h1]
    refine ⟨(t4 w hw h2).1, ?_⟩
    rcases hlast with ⟨g1, g2, g3, g4⟩ | ⟨j, g1, g2, g3, g4, g5⟩
    · rw [g3]; exact (t4 w hw h2).2
    · rw [g5, upd_n (fun g => h2 j g1 g.symm)]; exact (t4 w hw h2).2
  · by_cases e1 : j = nk
    · rw [e1, up_s, up_s, lnk_none (fun i h1 h2 => absurd h2 (by omega))]
      rcases hlast with ⟨g1, g2, g3, g4⟩ | ⟨j, g1, g2, g3, g4, g5⟩
      · rw [g3]; exact (t4 _ hv hnew).2
      · rw [g5, upd_n (fun g => hnew j g1 g.symm)]; exact (t4 _ hv hnew).2
    · have hj' : j < nk := by omega
      rw [up_n e1, up_n e1]
      by_cases hep : kp j = p
      · rw [hep]
        rcases hlast with ⟨g1, g2, g3, g4⟩ | ⟨j2, g1, g2, g3, g4, g5⟩
        · exact absurd hep (g4 j hj')
        · by_cases e2 : j = j2
          · rw [g5, e2, upd_s, lnk_add2 (by omega) (fun i h1 h2 => g3 i (by omega) h2)]
          · have h8 : j < j2 := by
              apply Classical.byContradiction
              intro h7
              exact g3 j (by omega) hj' hep
            rw [g5, upd_n (fun g => e2 (hinj j j2 hj' g1 g)), lnk_add1 ⟨j2, by omega, g1, g2⟩]
            have := t5 j hj'
            rw [hep] at this
            exact this
      · rw [lnk_add3 hep]
        rcases hlast with ⟨g1, g2, g3, g4⟩ | ⟨j2, g1, g2, g3, g4, g5⟩
        · rw [g3]; exact t5 j hj'
        · rw [g5, upd_n (fun g => hep (by rw [hinj j j2 hj' g1 g]; exact g2))]; exact t5 j hj'
theorem gK_inj {kf kd : Nat → Int32} {ne nk : Nat} {kp kn : Nat → Nat} (hK : gK kf kd ne nk kp kn) {i j : Nat} (hi : i < nk) (hj : j < nk) (e : kn i = kn j) : i = j := by
  rcases Nat.lt_trichotomy i j with h | h | h
  · exact absurd e (hK.2.2.1 i j h hj)
  · exact h
  · exact absurd e.symm (hK.2.2.1 j i h hi)
theorem gK_rng {kf kd : Nat → Int32} {ne nk : Nat} {kp kn : Nat → Nat} (hK : gK kf kd ne nk kp kn) {j : Nat} (hj : j < nk) : (1 ≤ kn j ∧ kn j < ne) ∨ (1000 ≤ kn j ∧ kn j < 1200) := by
  rcases hK.2.1 j hj with h | h
  · exact Or.inl ⟨h.1, h.2.1⟩
  · exact Or.inr h
/-- the class's new kid -/
theorem addKid_ok {N : Nat} {σ : Sg} {ne nk p v : Nat} {kp kn : Nat → Nat} (hne : ne ≤ 60) (hp : p < 60) (hv : (1 ≤ v ∧ v < 60) ∨ (1000 ≤ v ∧ v < 1200)) (hK : gK (σ 42) (σ 43) ne nk kp kn) (hT : gT (σ 5) (σ 6) (σ 7) (σ 8) nk kp kn) (hnew : ∀ j, j < nk → kn j ≠ v) : ∃ fk lk pa nx', f_X6_addKid N (nI p) (nI (nd v)) σ = some (0, fun c => if c = 5 then fk else if c = 6 then lk else if c = 7 then pa else if c = 8 then nx' else σ c) ∧ gT fk lk pa nx' (nk + 1) (up kp nk p) (up kn nk v) := by
  have hr : ∀ j, j < nk → (1 ≤ kn j ∧ kn j < 60) ∨ (1000 ≤ kn j ∧ kn j < 1200) := fun j hj => by
    rcases gK_rng hK hj with h | h
    · exact Or.inl ⟨h.1, by omega⟩
    · exact Or.inr h
  have hd : ∀ j, j < nk → nd (kn j) < 260 := fun j hj => (nd_lt (ne := 60) (by omega) (hr j hj)).2
  have hdv : nd v < 260 := (nd_lt (ne := 60) (by omega) hv).2
  have hin : ∀ i j, i < nk → j < nk → nd (kn i) = nd (kn j) → i = j := fun i j hi hj e => gK_inj hK hi hj (nd_inj (ne := 60) (by omega) (hr i hi) (hr j hj) e)
  have hnw : ∀ j, j < nk → nd (kn j) ≠ nd v := fun j hj e => hnew j hj (nd_inj (ne := 60) (by omega) (hr j hj) hv e)
  by_cases h1 : σ 6 p = -1
  · refine ⟨upd (σ 5) p (nI (nd v)), upd (σ 6) p (nI (nd v)), upd (σ 7) (nd v) (nI p), σ 8, ?_, add_gT hT hd hdv hin hnw (Or.inl ⟨h1, rfl, rfl⟩) hp⟩
    rw [f_X6_addKid, wrA_eq _ _ _ (nd v) rfl (by omega) (by decide), rdA_eq _ p rfl (by omega) (by decide), if_pos (show ss σ 7 (nd v) (nI p) 6 p = -1 from h1), wrA_eq _ _ _ p rfl (by omega) (by decide), wrA_eq _ _ _ p rfl (by omega) (by decide)]
    congr 2
    funext c
    by_cases c5 : c = 5
    · subst c5; rfl
    · by_cases c6 : c = 6
      · subst c6; rfl
      · by_cases c7 : c = 7
        · subst c7; rfl
        · by_cases c8 : c = 8
          · subst c8; rfl
          · simp only [ss, if_neg c5, if_neg c6, if_neg c7, if_neg c8]
  · obtain ⟨l, hl1, hl2⟩ : ∃ l, σ 6 p = nI l ∧ l < 260 := by
      rcases hT.2.1 p hp with ⟨g, _⟩ | ⟨j, g1, _, _, g2⟩
      · exact absurd g h1
      · exact ⟨_, g2, hd j g1⟩
    refine ⟨σ 5, upd (σ 6) p (nI (nd v)), upd (σ 7) (nd v) (nI p), upd (σ 8) l (nI (nd v)), ?_, add_gT hT hd hdv hin hnw (Or.inr ⟨l, hl1, hl2, rfl, rfl⟩) hp⟩
    rw [f_X6_addKid, wrA_eq _ _ _ (nd v) rfl (by omega) (by decide), rdA_eq _ p rfl (by omega) (by decide), if_neg (show ¬ ss σ 7 (nd v) (nI p) 6 p = -1 from h1), wrA_eq _ _ _ l (show ss σ 7 (nd v) (nI p) 6 p = nI l from hl1) (by omega) (by decide), wrA_eq _ _ _ p rfl (by omega) (by decide)]
    congr 2
    funext c
    by_cases c5 : c = 5
    · subst c5; rfl
    · by_cases c6 : c = 6
      · subst c6; rfl
      · by_cases c7 : c = 7
        · subst c7; rfl
        · by_cases c8 : c = 8
          · subst c8; rfl
          · simp only [ss, if_neg c5, if_neg c6, if_neg c7, if_neg c8]
