theorem rl_cases (r : Int32) : (∃ k : Nat, k ≤ 12 ∧ r = nI k) ∨ (∃ k : Nat, k < 20 ∧ r = nI (100 + k)) ∨ (¬ own r ∧ (r < 0 ∨ 12 < r)) := by
  by_cases h0 : r < 0
  · refine Or.inr (Or.inr ⟨fun h => ?_, Or.inl h0⟩)
    have := Int32.le_iff_toInt_le.mp h.1
    have := Int32.lt_iff_toInt_lt.mp h0
    have e1 : (100 : Int32).toInt = 100 := by decide
    have e2 : (0 : Int32).toInt = 0 := by decide
    omega
  · obtain ⟨j, hj, rfl⟩ := nI_of h0
    by_cases h1 : j ≤ 12
    · exact Or.inl ⟨j, h1, rfl⟩
    · by_cases h2 : 100 ≤ j ∧ j < 120
      · exact Or.inr (Or.inl ⟨j - 100, by omega, by congr 1; omega⟩)
      · refine Or.inr (Or.inr ⟨fun h => h2 ⟨?_, ?_⟩, Or.inr ?_⟩)
        · have := h.1; rw [show (100 : Int32) = nI 100 from rfl, leN (by decide) hj] at this; exact this
        · have := h.2; rw [show (120 : Int32) = nI 120 from rfl, ltN hj (by decide)] at this; exact this
        · rw [show (12 : Int32) = nI 12 from rfl, ltN (by decide) hj]; omega
theorem in_own_y {N : Nat} {σ : Sg} {k : Nat} (hk : k < 20) : f_X8_in N (nI (100 + k)) 100 119 σ = some (1, σ) := by
  apply in_yes
  · rw [show (100 : Int32) = nI 100 from rfl, ltN (by omega) (by decide)]; omega
  · rw [show (119 : Int32) = nI 119 from rfl, ltN (by decide) (by omega)]; omega
theorem in_own_n {N : Nat} {σ : Sg} {r : Int32} (h : ¬ own r) : f_X8_in N r 100 119 σ = some (0, σ) := by
  apply in_no
  by_cases h1 : r < 100
  · exact Or.inl h1
  · refine Or.inr ?_
    have h2 : ¬ r < 120 := fun g => h ⟨le_of_nlt h1, g⟩
    rw [Int32.lt_iff_toInt_lt] at h2 ⊢
    have e1 : (120 : Int32).toInt = 120 := by decide
    have e2 : (119 : Int32).toInt = 119 := by decide
    omega
theorem not_own {k : Nat} (hk : k ≤ 12) : ¬ own (nI k) := by
  intro h
  have := h.1
  rw [show (100 : Int32) = nI 100 from rfl, leN (by decide) (by omega)] at this
  omega
theorem isRole_s {N : Nat} {σ : Sg} {k : Nat} (hk : k ≤ 12) : f_X4_isRole N (nI k) σ = some (1, σ) := by
  rw [f_X4_isRole, isOwn_n (not_own hk), cI_eq, if_pos rfl, if_neg (nI_pos (by omega)), if_neg]
  rw [show (12 : Int32) = nI 12 from rfl, ltN (by decide) (by omega)]; omega
theorem isRole_o {N : Nat} {σ : Sg} {k : Nat} (hk : k < 20) : f_X4_isRole N (nI (100 + k)) σ = some (1, σ) := by
  rw [f_X4_isRole, isOwn_y hk, cI_eq, if_neg (by decide)]
theorem isRole_n {N : Nat} {σ : Sg} {r : Int32} (h1 : ¬ own r) (h2 : r < 0 ∨ 12 < r) : f_X4_isRole N r σ = some (0, σ) := by
  rw [f_X4_isRole, isOwn_n h1, cI_eq, if_pos rfl]
  by_cases h0 : r < 0
  · rw [if_pos h0]
  · rw [if_neg h0, if_pos (h2.resolve_left h0)]
theorem thr1 (σ : Sg) : 0 < ss σ 35 0 1 35 0 := by show (0 : Int32) < 1; decide
theorem thr0' (σ : Sg) : ¬ 0 < ss σ 35 0 0 35 0 := by show ¬ (0 : Int32) < 0; decide
theorem op_map {σ : Sg} (hI : Inv σ) {N : Nat} (hN9 : 20 < N) (a b : Int32) : OpOK (f_L_map N a b) (f_X8_map N a b) σ := by
  obtain ⟨ne, nk, np, nt, ns, nf, kp, kn, sh, hN, hE, hV, hM, hK, hT, hP, hF⟩ := hI
  have hI1 : Inv (ss σ 35 0 1) := ⟨ne, nk, np, nt, ns, nf, kp, kn, sh, hN, hE, hV, hM, hK, hT, hP, hF⟩
  have h2 : σ 2 = σ 41 := hE.2.2.2.2.2.1
  have bad : (¬ own a) → OpOK (f_L_map N a b) (f_X8_map N a b) σ := by
    intro ha
    refine ⟨1, σ, 0, ss σ 35 0 1, ?_, ?_, rfl, fun h => absurd h (by decide), hI1⟩
    · simp [f_L_map, f_X7_map, isOwn_n ha, cI, cC]
    · rw [f_X8_map, in_own_n ha, cI_eq, if_pos rfl, st_eq, lt_eq, if_pos (thr1 _)]
  have good : ∀ k : Nat, k < 20 → a = nI (100 + k) → okR b → f_X4_isRole N b σ = some (1, σ) → (∀ τ : Sg, (∃ K : Int32 → Sg → Option (Int32 × Sg), True) → f_X8_map N a b τ = (st (ss τ 35 0 0) (fun σ14 => lt (σ14 35 0) (fun v15 => if 0 < v15 then (some (0, σ14)) else (cI (f_X8_leadsTo N b a σ14) (fun v17 σ18 => if v17 = 0 then (wrA 20 σ18 41 (a - 100) b (fun σ20 => some (1, σ20))) else (some (0, σ18)))))))) → OpOK (f_L_map N a b) (f_X8_map N a b) σ := by
    intro k hk ea hb hrole hmap
    subst ea
    obtain ⟨x, hx1, hx2⟩ := x4_leads hN9 (σ := σ) (by rw [h2]; exact hM) hb (ownN hk)
    by_cases hx0 : x = 0
    · have hL : ¬ Ld (σ 41) b (nI (100 + k)) := by rw [← h2]; exact hx2.mp hx0
      refine ⟨0, ss (ss σ 2 k b) 34 0 1, 1, ss (ss (ss (ss σ 2 k b) 34 0 1) 35 0 0) 41 k b, ?_, ?_, rfl, fun _ => rfl, ?_⟩
      · rw [f_L_map, f_X7_map, isOwn_y hk, cI_eq, if_neg (by decide), hrole, cI_eq, if_neg (by decide), hx1, cI_eq, if_pos hx0, f_X4_lead, isOwn_y hk, cI_eq, if_neg (by decide), idx_ok hk, wrA_eq _ _ _ k rfl hk (by decide)]
        rfl
      · rw [hmap _ ⟨fun _ _ => none, trivial⟩, st_eq, lt_eq, if_neg (thr0' _)]
        obtain ⟨y, hy1, hy2⟩ := x8_leads hN9 (σ := ss (ss (ss σ 2 k b) 34 0 1) 35 0 0) (show gM (σ 41) from hM) hb (ownN hk)
        rw [hy1, cI_eq, if_pos (hy2.mpr hL), idx_ok hk, wrA_eq _ _ _ k rfl hk (by decide)]
      · refine ⟨ne, nk, np, nt, ns, nf, kp, kn, sh, hN, ⟨hE.1, hE.2.1, hE.2.2.1, hE.2.2.2.1, hE.2.2.2.2.1, ?_, hE.2.2.2.2.2.2⟩, hV, ?_, hK, hT, hP, hF⟩
        · show upd (σ 2) k b = upd (σ 41) k b
          rw [h2]
        · exact gM_upd hM hk hb hL
    · have hL : Ld (σ 41) b (nI (100 + k)) := by
        rw [← h2]
        exact Classical.not_not.mp (fun g => hx0 (hx2.mpr g))
      refine ⟨0, ss σ 34 0 0, 0, ss (ss σ 34 0 0) 35 0 0, ?_, ?_, rfl, fun _ => rfl, ⟨ne, nk, np, nt, ns, nf, kp, kn, sh, hN, hE, hV, hM, hK, hT, hP, hF⟩⟩
      · rw [f_L_map, f_X7_map, isOwn_y hk, cI_eq, if_neg (by decide), hrole, cI_eq, if_neg (by decide), hx1, cI_eq, if_neg hx0]
        rfl
      · rw [hmap _ ⟨fun _ _ => none, trivial⟩, st_eq, lt_eq, if_neg (thr0' _)]
        obtain ⟨y, hy1, hy2⟩ := x8_leads hN9 (σ := ss (ss σ 34 0 0) 35 0 0) (show gM (σ 41) from hM) hb (ownN hk)
        rw [hy1, cI_eq, if_neg (fun e => (hy2.mp e) hL)]
  rcases rl_cases a with ⟨k, hk, ea⟩ | ⟨k, hk, ea⟩ | ⟨ha, -⟩
  · exact bad (by rw [ea]; exact not_own hk)
  · rcases rl_cases b with ⟨q, hq, eb⟩ | ⟨q, hq, eb⟩ | ⟨hb1, hb2⟩
    · refine good k hk ea (Or.inr ⟨q, eb, Or.inl hq⟩) (by rw [eb]; exact isRole_s hq) (fun τ _ => ?_)
      rw [f_X8_map, ea, in_own_y hk, cI_eq, if_neg (by decide), in_yes, cI_eq, if_neg (by decide)]
      · rw [eb]; exact nI_pos (by omega)
      · rw [eb, show (12 : Int32) = nI 12 from rfl, ltN (by decide) (by omega)]; omega
    · refine good k hk ea (Or.inr ⟨100 + q, eb, Or.inr ⟨by omega, by omega⟩⟩) (by rw [eb]; exact isRole_o hq) (fun τ _ => ?_)
      rw [f_X8_map, ea, in_own_y hk, cI_eq, if_neg (by decide), in_no, cI_eq, if_pos rfl, eb, in_own_y hq, cI_eq, if_neg (by decide)]
      rw [eb]
      refine Or.inr ?_
      rw [show (12 : Int32) = nI 12 from rfl, ltN (by decide) (by omega)]; omega
    · refine ⟨1, σ, 0, ss σ 35 0 1, ?_, ?_, rfl, fun h => absurd h (by decide), hI1⟩
      · rw [f_L_map, f_X7_map, ea, isOwn_y hk, cI_eq, if_neg (by decide), isRole_n hb1 hb2, cI_eq, if_pos rfl]
        rfl
      · rw [f_X8_map, ea, in_own_y hk, cI_eq, if_neg (by decide), in_no hb2, cI_eq, if_pos rfl, in_own_n hb1, cI_eq, if_pos rfl, st_eq, lt_eq, if_pos (thr1 _)]
  · exact bad ha
