def ptn : List Nat → List Nat
  | [] => []
  | x :: R => if x < 1000 then ptn R else (x - 1000) :: ptn R
theorem ptn_map (kn : Nat → Nat) : ∀ L : List Nat, ptn (L.map kn) = pts kn L := by
  intro L
  induction L with
  | nil => rfl
  | cons t L ih =>
    rw [List.map_cons, ptn, pts]
    by_cases g : kn t < 1000
    · rw [if_pos g, if_pos g, ih]
    · rw [if_neg g, if_neg g, ih]
theorem ptn_le : ∀ R, (ptn R).length ≤ R.length := by
  intro R
  induction R with
  | nil => exact Nat.le_refl _
  | cons x R ih =>
    rw [ptn]
    by_cases g : x < 1000
    · rw [if_pos g, List.length_cons]; omega
    · rw [if_neg g, List.length_cons, List.length_cons]; omega
theorem partAt_n {N : Nat} {nE : Nat} (hnE : nE ≤ 160) {x1 : Int32} (K : Int32 → Int32 → Sg → Option (Int32 × Sg)) : ∀ (R : List Nat) (i k fuel : Nat) (x3 : Int32) (τ : Sg), (∀ i', i' < R.length → τ 47 (i + i') = nI (gl R i')) → (∀ x, x ∈ R → x < 60 ∨ (1000 ≤ x ∧ x < 1200)) → i + R.length = nE → τ 35 17 = nI nE → (∀ s, s < (ptn R).length → x1 ≠ nI (k + s)) → k ≤ i → R.length < fuel → f_X8_partAt_7 N x1 K fuel (nI k) x3 (nI i) τ = K (nI (k + (ptn R).length)) x3 τ := by
  intro R
  induction R with
  | nil =>
    intro i k fuel x3 τ h47 hx hi h17 hs hk hf
    obtain ⟨fuel, rfl⟩ : ∃ k, fuel = k + 1 := ⟨fuel - 1, by omega⟩
    rw [List.length_nil] at hi
    rw [f_X8_partAt_7, lt_eq, h17, if_pos (nI_le (by omega) (by omega))]
    rfl
  | cons x R ih =>
    intro i k fuel x3 τ h47 hx hi h17 hs hk hf
    obtain ⟨fuel, rfl⟩ : ∃ k, fuel = k + 1 := ⟨fuel - 1, by omega⟩
    rw [List.length_cons] at hi hf
    have hxn := hx x (List.mem_cons_self ..)
    have hx0 : τ 47 i = nI x := by have := h47 0 (by rw [List.length_cons]; omega); rw [gl_0] at this; exact this
    have h47' : ∀ i', i' < R.length → τ 47 (i + 1 + i') = nI (gl R i') := fun i' hi' => by
      have := h47 (i' + 1) (by rw [List.length_cons]; omega)
      rw [gl_s] at this
      rw [show i + 1 + i' = i + (i' + 1) by omega]
      exact this
    have hx' : ∀ y, y ∈ R → y < 60 ∨ (1000 ≤ y ∧ y < 1200) := fun y hy => hx y (List.mem_cons_of_mem _ hy)
    rw [f_X8_partAt_7, lt_eq, h17, if_neg (nI_ge (by omega) (by omega)), rdA_v i (nI x) rfl (by omega) (by decide) hx0]
    rw [ptn] at hs ⊢
    by_cases g : x < 1000
    · rw [if_pos g] at hs ⊢
      rw [if_pos (by rw [show (1000 : Int32) = nI 1000 from rfl, ltN (by omega) (by decide)]; omega), lt_eq, nI_1]
      exact ih (i + 1) k fuel x3 τ h47' hx' (by omega) h17 hs (by omega) (by omega)
    · rw [if_neg g] at hs ⊢
      rw [List.length_cons] at hs ⊢
      rw [if_neg (by rw [show (1000 : Int32) = nI 1000 from rfl, ltN (by omega) (by decide)]; omega), if_neg (fun e => hs 0 (by omega) e.symm), lt_eq, lt_eq, nI_1, nI_1]
      rw [ih (i + 1) (k + 1) fuel x3 τ h47' hx' (by omega) h17 (fun s hs' => by have := hs (s + 1) (by omega); rw [show k + 1 + s = k + (s + 1) by omega]; exact this) (by omega) (by omega), show k + 1 + (ptn R).length = k + ((ptn R).length + 1) by omega]
theorem partAt_y {N : Nat} {nE : Nat} (hnE : nE ≤ 160) {z : Nat} (hz : z < 200) (K : Int32 → Int32 → Sg → Option (Int32 × Sg)) : ∀ (R : List Nat) (i k fuel : Nat) (x3 : Int32) (τ : Sg), (∀ i', i' < R.length → τ 47 (i + i') = nI (gl R i')) → (∀ x, x ∈ R → x < 60 ∨ (1000 ≤ x ∧ x < 1200)) → i + R.length = nE → τ 35 17 = nI nE → k ≤ z → z < k + (ptn R).length → k ≤ i → R.length < fuel → ∃ q, q < R.length ∧ gl R q = 1000 + gl (ptn R) (z - k) ∧ f_X8_partAt_7 N (nI z) K fuel (nI k) x3 (nI i) τ = K (nI (k + (ptn R).length)) (nI (i + q)) τ := by
  intro R
  induction R with
  | nil =>
    intro i k fuel x3 τ h47 hx hi h17 hk1 hk2 hk hf
    rw [ptn, List.length_nil] at hk2
    omega
  | cons x R ih =>
    intro i k fuel x3 τ h47 hx hi h17 hk1 hk2 hk hf
    obtain ⟨fuel, rfl⟩ : ∃ k, fuel = k + 1 := ⟨fuel - 1, by omega⟩
    rw [List.length_cons] at hi hf
    have hxn := hx x (List.mem_cons_self ..)
    have hx0 : τ 47 i = nI x := by have := h47 0 (by rw [List.length_cons]; omega); rw [gl_0] at this; exact this
    have h47' : ∀ i', i' < R.length → τ 47 (i + 1 + i') = nI (gl R i') := fun i' hi' => by
      have := h47 (i' + 1) (by rw [List.length_cons]; omega)
      rw [gl_s] at this
      rw [show i + 1 + i' = i + (i' + 1) by omega]
      exact this
    have hx' : ∀ y, y ∈ R → y < 60 ∨ (1000 ≤ y ∧ y < 1200) := fun y hy => hx y (List.mem_cons_of_mem _ hy)
    have hpl := ptn_le R
    rw [f_X8_partAt_7, lt_eq, h17, if_neg (nI_ge (by omega) (by omega)), rdA_v i (nI x) rfl (by omega) (by decide) hx0]
    rw [ptn] at hk2 ⊢
    by_cases g : x < 1000
    · rw [if_pos g] at hk2 ⊢
      rw [if_pos (by rw [show (1000 : Int32) = nI 1000 from rfl, ltN (by omega) (by decide)]; omega), lt_eq, nI_1]
      obtain ⟨q, q1, q2, q3⟩ := ih (i + 1) k fuel x3 τ h47' hx' (by omega) h17 hk1 hk2 (by omega) (by omega)
      exact ⟨q + 1, by rw [List.length_cons]; omega, by rw [gl_s]; exact q2, by rw [q3, show i + 1 + q = i + (q + 1) by omega]⟩
    · rw [if_neg g] at hk2 ⊢
      rw [List.length_cons] at hk2 ⊢
      rw [if_neg (by rw [show (1000 : Int32) = nI 1000 from rfl, ltN (by omega) (by decide)]; omega)]
      by_cases e : k = z
      · subst e
        refine ⟨0, by omega, by rw [Nat.sub_self, gl_0, gl_0]; omega, ?_⟩
        rw [if_pos rfl, lt_eq, lt_eq, nI_1, nI_1, partAt_n hnE K R (i + 1) (k + 1) fuel (nI i) τ h47' hx' (by omega) h17 (fun s hs' => by rw [Ne, eqN (by omega) (by omega)]; omega) (by omega) (by omega), show k + 1 + (ptn R).length = k + ((ptn R).length + 1) by omega]
        rfl
      · rw [if_neg (by rw [eqN (by omega) (by omega)]; exact e), lt_eq, lt_eq, nI_1, nI_1]
        obtain ⟨q, q1, q2, q3⟩ := ih (i + 1) (k + 1) fuel x3 τ h47' hx' (by omega) h17 (by omega) (by omega) (by omega) (by omega)
        refine ⟨q + 1, by omega, by rw [gl_s, show z - k = (z - (k + 1)) + 1 by omega, gl_s]; exact q2, ?_⟩
        rw [q3, show i + 1 + q = i + (q + 1) by omega, show k + 1 + (ptn R).length = k + ((ptn R).length + 1) by omega]
        rfl
theorem gl_map (f : Nat → Nat) {L : List Nat} {i : Nat} (h : i < L.length) : gl (L.map f) i = f (gl L i) := by
  rw [gl_eq h, gl_eq (by rw [List.length_map]; exact h), List.getElem_map]
theorem ML_rng {kp kn ix : Nat → Nat} {nk ne : Nat} (h : Tr kp kn ix nk ne) (hne : ne ≤ 60) {L : List Nat} (hL2 : ∀ t, t ∈ L → t < nk) : ∀ x, x ∈ 0 :: L.map kn → x < 60 ∨ (1000 ≤ x ∧ x < 1200) := by
  intro x hx
  rcases List.mem_cons.mp hx with g | g
  · exact Or.inl (by omega)
  · obtain ⟨t, t7, t8⟩ := List.mem_map.mp g
    rcases h.2.1 t (hL2 t t7) with g | g
    · exact Or.inl (by omega)
    · exact Or.inr (by omega)
theorem op_walk {σ : Sg} (hI : Inv σ) {N : Nat} (hN9 : 20000 ≤ N) : ∃ (r : Int32) (σ1 σ2 : Sg), f_X7_walk N σ = some (r, σ1) ∧ f_X8_walk N σ1 = some (r, σ2) ∧ Inv σ2 := by
  obtain ⟨ne, nk, np, nt, ns, nf, kp, kn, sh, hIA⟩ := hI
  obtain ⟨L, H, hL, hL2, hpl, hHl, hHm, cf, ch, rg⟩ := walk_ex hIA hN9
  have hIA' := hIA
  obtain ⟨⟨n1, n2, n3, n4, n5, n6, n7, n8, n9, n10, n11, n12, n13, n14, n15, n16, n17⟩, hE, hV, hM, hK, hT, hP, hF⟩ := hIA
  obtain ⟨ix, hTr⟩ := Tr_ex hK
  obtain ⟨σ1, a1, a2, a3, a4, a5, a6⟩ := cf σ (fun c _ _ => rfl)
  obtain ⟨σ2, b1, b2, b3, b4, b5, b6, b7⟩ := rg (ss σ1 35 0 0) (by
    show σ1 35 8 = _
    rw [a6 35 (by decide) (by decide) (by decide)]) (fun c c1 c2 => by rw [ss_c (by omega)]; exact a6 c (by omega) (by omega) (by omega))
  have hLl := pigL hL hL2
  refine ⟨nI (pts kn L).length, σ1, σ2, ?_, ?_, ?_⟩
  · rw [f_X7_walk, a1, cI_eq, lt_eq, a3]
  · rw [f_X8_walk, st_eq, b1, cI_eq, f_X8_partAt]
    have := partAt_n (N := N) (nE := (0 :: L.map kn).length) (by rw [List.length_cons, List.length_map]; omega) (x1 := -1) (fun v11 v12 σ13 => if (-1 : Int32) = (-1) then (some (v11, σ13)) else (some (v12, σ13))) (0 :: L.map kn) 0 0 N (-1) σ2 (fun i' hi' => by rw [b3, wrL_at hi']) (ML_rng hTr n12 hL2) (by omega) b2 (fun s hs => by
      have := ptn_le (0 :: L.map kn)
      rw [List.length_cons, List.length_map] at this
      rw [Nat.zero_add]
      exact (m1_ne (by omega)).symm) (by omega) (by rw [List.length_cons, List.length_map]; omega)
    rw [nI_0] at this
    rw [this, if_pos rfl, cI_eq, Nat.zero_add, ptn, if_pos (by decide), ptn_map]
  · refine Inv_ag hIA' (fun c hc hc2 => ?_) ?_ ?_
    · rw [b7 c (by rintro rfl; exact absurd hc (by decide)) (by rintro rfl; exact absurd hc (by decide)) (by rintro rfl; exact absurd hc (by decide)) (by rintro rfl; exact absurd hc (by decide)) (by rintro rfl; exact absurd hc (by decide)) (by rintro rfl; exact absurd hc (by decide)) (by rintro rfl; exact absurd hc (by decide)), ss_c (by rintro rfl; exact absurd hc (by decide)), a6 c (by rintro rfl; exact absurd hc (by decide)) (by rintro rfl; exact absurd hc (by decide)) (by rintro rfl; exact absurd hc (by decide))]
    · rw [b7 0 (by decide) (by decide) (by decide) (by decide) (by decide) (by decide) (by decide)]
      show σ1 0 13 = _
      rw [a6 0 (by decide) (by decide) (by decide)]
    · have e : ∀ i, i ≠ 0 → i ≠ 17 → i ≠ 22 → σ2 35 i = σ 35 i := fun i i0 i1 i2 => by
        rw [b6 i i1 i2]
        show upd (σ1 35) 0 0 i = _
        rw [upd_n i0, a6 35 (by decide) (by decide) (by decide)]
      exact ⟨e 1 (by decide) (by decide) (by decide), e 8 (by decide) (by decide) (by decide), e 11 (by decide) (by decide) (by decide), e 12 (by decide) (by decide) (by decide), e 15 (by decide) (by decide) (by decide), e 25 (by decide) (by decide) (by decide)⟩
