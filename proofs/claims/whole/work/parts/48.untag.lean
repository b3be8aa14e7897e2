theorem x8_at1 {N : Nat} (hN9 : 300 ≤ N) {ne nk ns p z : Nat} {kp kn sh : Nat → Nat} (hp : p < 10) (hns : ns ≤ 200) (hnk : nk ≤ 160) (hne : ne ≤ 60) (hz : z < 2 ^ 31) {pa : Nat → Int32} (K : Int32 → Int32 → Sg → Option (Int32 × Sg)) {τ : Sg} (h15 : τ 35 15 = nI ns) (hs : ∀ j, j < ns → τ 46 j = nI (sh j) ∧ sh j < 200) (ho : ∀ c, c < 200 → f_X8_ownerOf N (nI c) τ = some (pa (60 + c), τ)) : ∀ (r j k fuel : Nat) (x3 : Int32), j + r = ns → k ≤ 200 → k + (ul pa sh p r j).length ≤ 200 → r < fuel → f_X8_untaggedAt_17 N (nI z) (nI p) K fuel (nI k) x3 (nI j) τ = K (nI (k + (ul pa sh p r j).length)) (pick z k (ul pa sh p r j) x3) τ := by
  intro r
  induction r with
  | zero =>
    intro j k fuel x3 hj hk hk2 hf
    obtain ⟨fuel, rfl⟩ : ∃ k, fuel = k + 1 := ⟨fuel - 1, by omega⟩
    rw [f_X8_untaggedAt_17, lt_eq, h15, if_pos (nI_le (by omega) (by omega)), ul, pick_nil]
    rfl
  | succ r ih =>
    intro j k fuel x3 hj hk hk2 hf
    obtain ⟨fuel, rfl⟩ : ∃ k, fuel = k + 1 := ⟨fuel - 1, by omega⟩
    have hj2 := hs j (by omega)
    rw [f_X8_untaggedAt_17, lt_eq, h15, if_neg (nI_ge (by omega) (by omega)), rdA_eq _ j rfl (by omega) (by decide), hj2.1, nI_div20 (by omega)]
    by_cases g : sh j / 20 = p
    · rw [if_pos (by rw [g]), rdA_eq _ j rfl (by omega) (by decide), hj2.1, ho _ hj2.2, cI_eq]
      by_cases g2 : pa (60 + sh j) = -1
      · have e1 : ul pa sh p (r + 1) j = sh j :: ul pa sh p r (j + 1) := by rw [ul, if_pos (And.intro g g2)]
        rw [e1] at hk2 ⊢
        rw [List.length_cons] at hk2 ⊢
        rw [if_pos g2, ← pick_cons, show k + ((ul pa sh p r (j + 1)).length + 1) = k + 1 + (ul pa sh p r (j + 1)).length by omega]
        by_cases e : k = z
        · rw [if_pos (by rw [e]), rdA_eq _ j rfl (by omega) (by decide), hj2.1, lt_eq, lt_eq, nI_1, nI_1, if_pos e]
          exact ih (j + 1) (k + 1) fuel _ (by omega) (by omega) (by omega) (by omega)
        · rw [if_neg (by rw [eqN (by omega) hz]; exact e), lt_eq, lt_eq, nI_1, nI_1, if_neg e]
          exact ih (j + 1) (k + 1) fuel _ (by omega) (by omega) (by omega) (by omega)
      · have gg : ¬ (sh j / 20 = p ∧ pa (60 + sh j) = -1) := fun h => g2 h.2
        have e1 : ul pa sh p (r + 1) j = ul pa sh p r (j + 1) := by rw [ul, if_neg gg]
        rw [e1] at hk2 ⊢
        rw [if_neg g2, lt_eq, nI_1]
        exact ih (j + 1) k fuel _ (by omega) (by omega) (by omega) (by omega)
    · have gg : ¬ (sh j / 20 = p ∧ pa (60 + sh j) = -1) := fun h => g h.1
      have e1 : ul pa sh p (r + 1) j = ul pa sh p r (j + 1) := by rw [ul, if_neg gg]
      rw [e1] at hk2 ⊢
      rw [if_neg (by rw [eqN (by omega) (by omega)]; exact g), lt_eq, nI_1]
      exact ih (j + 1) k fuel _ (by omega) (by omega) (by omega) (by omega)
theorem x8_at2 {N : Nat} (hN9 : 300 ≤ N) {ns z : Nat} {sh : Nat → Nat} (hns : ns ≤ 200) (hz : z < 2 ^ 31) {pa : Nat → Int32} (K : Int32 → Sg → Option (Int32 × Sg)) {τ : Sg} (h15 : τ 35 15 = nI ns) (hs : ∀ j, j < ns → τ 46 j = nI (sh j) ∧ sh j < 200) (ho : ∀ c, c < 200 → f_X8_ownerOf N (nI c) τ = some (pa (60 + c), τ)) : ∀ (q p k fuel : Nat) (x3 : Int32), p + q = 10 → k + (Ul pa sh ns q p).length ≤ 200 → q < fuel → f_X8_untaggedAt_7 N (nI z) K fuel (nI k) x3 (nI p) τ = K (pick z k (Ul pa sh ns q p) x3) τ := by
  intro q
  induction q with
  | zero =>
    intro p k fuel x3 hp hk hf
    obtain ⟨fuel, rfl⟩ : ∃ k, fuel = k + 1 := ⟨fuel - 1, by omega⟩
    rw [f_X8_untaggedAt_7, if_pos (by rw [show p = 10 by omega]; decide), Ul, pick_nil]
  | succ q ih =>
    intro p k fuel x3 hp hk hf
    obtain ⟨fuel, rfl⟩ : ∃ k, fuel = k + 1 := ⟨fuel - 1, by omega⟩
    rw [Ul, List.length_append] at hk
    rw [f_X8_untaggedAt_7, if_neg (by rw [show (10 : Int32) = nI 10 from rfl, leN (by decide) (by omega)]; omega)]
    have := x8_at1 hN9 (ne := 0) (nk := 0) (kp := sh) (kn := sh) (show p < 10 by omega) hns (by omega) (by omega) hz (fun v18 v19 σ20 => lt (nI p + 1) (fun v21 => f_X8_untaggedAt_7 N (nI z) K fuel v18 v19 v21 σ20)) h15 hs ho ns 0 k N x3 (by omega) (by omega) (by omega) (by omega)
    rw [nI_0] at this
    rw [this, lt_eq, nI_1, ih (p + 1) _ fuel _ (by omega) (by omega) (by omega), Ul, pick_app]
theorem x8_uat {N : Nat} (hN9 : 300 ≤ N) {ns z : Nat} {sh : Nat → Nat} (hns : ns ≤ 200) (hz : z < 2 ^ 31) {pa : Nat → Int32} {τ : Sg} (h15 : τ 35 15 = nI ns) (hs : ∀ j, j < ns → τ 46 j = nI (sh j) ∧ sh j < 200) (ho : ∀ c, c < 200 → f_X8_ownerOf N (nI c) τ = some (pa (60 + c), τ)) : f_X8_untaggedAt N (nI z) τ = some (pick z 0 (Ul pa sh ns 10 0) (-1), τ) := by
  have hl := Ul_le pa sh ns 10 0
  have hl2 := sumc_le sh 10 ns
  rw [Nat.zero_add] at hl
  have := x8_at2 hN9 hns hz (fun v22 σ23 => some (v22, σ23)) h15 hs ho 10 0 0 N (-1) (by omega) (by omega) (by omega)
  rw [nI_0] at this
  exact this
def uc (pa : Nat → Int32) (sh : Nat → Nat) : Nat → Nat → Nat
  | 0, _ => 0
  | r + 1, j => (if pa (60 + sh j) = -1 then 1 else 0) + uc pa sh r (j + 1)
def sul (pa : Nat → Int32) (sh : Nat → Nat) (r j : Nat) : Nat → Nat
  | 0 => 0
  | q + 1 => sul pa sh r j q + (ul pa sh q r j).length
theorem sul_0 (pa : Nat → Int32) (sh : Nat → Nat) (j : Nat) : ∀ q, sul pa sh 0 j q = 0 := by
  intro q
  induction q with
  | zero => rfl
  | succ q ih => rw [sul, ih, ul]; rfl
theorem sul_s (pa : Nat → Int32) (sh : Nat → Nat) (r j : Nat) : ∀ q, sul pa sh (r + 1) j q = sul pa sh r (j + 1) q + (if sh j / 20 < q ∧ pa (60 + sh j) = -1 then 1 else 0) := by
  intro q
  induction q with
  | zero => rw [sul, sul, if_neg (fun h => absurd h.1 (by omega))]
  | succ q ih =>
    rw [sul, sul, ih, ul]
    by_cases g2 : pa (60 + sh j) = -1
    · by_cases g : sh j / 20 = q
      · rw [if_pos (And.intro g g2), if_neg (fun h => absurd h.1 (by omega)), if_pos ⟨by omega, g2⟩, List.length_cons]; omega
      · rw [if_neg (fun h : sh j / 20 = q ∧ pa (60 + sh j) = -1 => g h.1)]
        by_cases g3 : sh j / 20 < q
        · rw [if_pos (And.intro g3 g2), if_pos ⟨by omega, g2⟩]; omega
        · rw [if_neg (fun h : sh j / 20 < q ∧ pa (60 + sh j) = -1 => g3 h.1), if_neg (fun h => absurd h.1 (by omega))]; omega
    · rw [if_neg (fun h : sh j / 20 = q ∧ pa (60 + sh j) = -1 => g2 h.2), if_neg (fun h : sh j / 20 < q ∧ pa (60 + sh j) = -1 => g2 h.2), if_neg (fun h => g2 h.2)]; omega
theorem sul_uc (pa : Nat → Int32) (sh : Nat → Nat) : ∀ r j, (∀ i, j ≤ i → i < j + r → sh i < 200) → sul pa sh r j 10 = uc pa sh r j := by
  intro r
  induction r with
  | zero => intro j _; rw [sul_0]; rfl
  | succ r ih =>
    intro j h
    have hj := h j (by omega) (by omega)
    rw [sul_s, ih (j + 1) (fun i h1 h2 => h i (by omega) (by omega)), uc]
    by_cases g2 : pa (60 + sh j) = -1
    · rw [if_pos ⟨by omega, g2⟩, if_pos g2]; omega
    · rw [if_neg (fun h => g2 h.2), if_neg g2]; omega
theorem Ul_sul (pa : Nat → Int32) (sh : Nat → Nat) (ns : Nat) : ∀ q p, (Ul pa sh ns q p).length + sul pa sh ns 0 p = sul pa sh ns 0 (p + q) := by
  intro q
  induction q with
  | zero => intro p; rw [Ul, List.length_nil]; simp
  | succ q ih =>
    intro p
    have h1 := ih (p + 1)
    rw [Ul, List.length_append]
    rw [show p + 1 + q = p + (q + 1) by omega, sul] at h1
    omega
theorem x8_cnt {N : Nat} {ns : Nat} {sh : Nat → Nat} (hns : ns ≤ 200) {pa : Nat → Int32} (K : Int32 → Sg → Option (Int32 × Sg)) {τ : Sg} (h15 : τ 35 15 = nI ns) (hs : ∀ j, j < ns → τ 46 j = nI (sh j) ∧ sh j < 200) (ho : ∀ c, c < 200 → f_X8_ownerOf N (nI c) τ = some (pa (60 + c), τ)) : ∀ (r j k fuel : Nat), j + r = ns → r < fuel → f_X8_countUntagged_4 N K fuel (nI k) (nI j) τ = K (nI (k + uc pa sh r j)) τ := by
  intro r
  induction r with
  | zero =>
    intro j k fuel hj hf
    obtain ⟨fuel, rfl⟩ : ∃ k, fuel = k + 1 := ⟨fuel - 1, by omega⟩
    rw [f_X8_countUntagged_4, lt_eq, h15, if_pos (nI_le (by omega) (by omega))]
    rfl
  | succ r ih =>
    intro j k fuel hj hf
    obtain ⟨fuel, rfl⟩ : ∃ k, fuel = k + 1 := ⟨fuel - 1, by omega⟩
    have hj2 := hs j (by omega)
    rw [f_X8_countUntagged_4, lt_eq, h15, if_neg (nI_ge (by omega) (by omega)), rdA_eq _ j rfl (by omega) (by decide), hj2.1, ho _ hj2.2, cI_eq, uc]
    by_cases g2 : pa (60 + sh j) = -1
    · rw [if_pos g2, if_pos g2, lt_eq, lt_eq, nI_1, nI_1, ih (j + 1) (k + 1) fuel (by omega) (by omega), show k + 1 + uc pa sh r (j + 1) = k + (1 + uc pa sh r (j + 1)) by omega]
    · rw [if_neg g2, if_neg g2, lt_eq, nI_1, ih (j + 1) k fuel (by omega) (by omega), Nat.zero_add]
theorem x8_count {N : Nat} (hN9 : 300 ≤ N) {ns : Nat} {sh : Nat → Nat} (hns : ns ≤ 200) {pa : Nat → Int32} {τ : Sg} (h15 : τ 35 15 = nI ns) (hs : ∀ j, j < ns → τ 46 j = nI (sh j) ∧ sh j < 200) (ho : ∀ c, c < 200 → f_X8_ownerOf N (nI c) τ = some (pa (60 + c), τ)) : f_X8_countUntagged N τ = some (nI (Ul pa sh ns 10 0).length, τ) := by
  have := x8_cnt hns (fun v10 σ11 => some (v10, σ11)) h15 hs ho ns 0 0 N (by omega) (by omega)
  rw [nI_0] at this
  unfold f_X8_countUntagged
  rw [this, Nat.zero_add, ← sul_uc pa sh ns 0 (fun i _ h2 => (hs i (by omega)).2)]
  have h2 := Ul_sul pa sh ns 10 0
  rw [Nat.zero_add, sul, Nat.add_zero] at h2
  rw [h2]
theorem op_untagged {σ : Sg} (hI : Inv σ) {N : Nat} (hN9 : 20000 ≤ N) (a : Int32) : OpOK (f_L_untagged N a) (f_X8_untagged N a) σ := by
  obtain ⟨ne, nk, np, nt, ns, nf, kp, kn, sh, hIA⟩ := hI
  have hIA' := hIA
  obtain ⟨⟨n1, n2, n3, n4, n5, n6, n7, n8, n9, n10, n11, n12, n13, n14, n15, n16, n17⟩, hE, hV, hM, hK, hT, hP, hF⟩ := hIA
  obtain ⟨U, hU⟩ : ∃ U, U = Ul (σ 7) sh ns 10 0 := ⟨_, rfl⟩
  obtain ⟨σ1, a1, a2, a3, a4, a5⟩ := x7_loose (N := N) (by omega) n15 hP
  rw [← hU] at a2 a3
  have hl : U.length ≤ 200 := by
    have hl := Ul_le (σ 7) sh ns 10 0
    have hl2 := sumc_le sh 10 ns
    rw [Nat.zero_add, ← hU] at hl
    omega
  have hag : ∀ x y : Int32, ∀ τ : Sg, τ = σ1 ∨ τ = ss σ1 34 0 x → ∀ z : Int32, Inv (ss (ss τ 35 0 y) 35 0 z) ∧ Inv (ss τ 35 0 y) := by
    intro x y τ ht z
    have hc : ∀ c, Vt c = false → c ≠ 34 → τ c = σ c := by
      intro c hc hc2
      have : τ c = σ1 c := by rcases ht with rfl | rfl; · rfl
                              · exact ss_c hc2
      rw [this, a5 c (by rintro rfl; exact absurd hc (by decide)) (by rintro rfl; exact absurd hc (by decide))]
    have h35 : τ 35 = σ 35 := by
      have : τ 35 = σ1 35 := by rcases ht with rfl | rfl <;> rfl
      rw [this, a5 35 (by decide) (by decide)]
    have h0 : τ 0 13 = σ 0 13 := by
      have : τ 0 = σ1 0 := by rcases ht with rfl | rfl <;> rfl
      rw [this, a4 13 (by decide)]
    have hI2 : Inv τ := Inv_ag hIA' hc h0 (by rw [h35]; exact ⟨rfl, rfl, rfl, rfl, rfl, rfl⟩)
    exact ⟨hI2, hI2⟩
  have href : ∀ x y : Int32, ∀ τ : Sg, τ = σ1 ∨ τ = ss σ1 34 0 x → f_X8_countUntagged N (ss τ 35 0 y) = some (nI U.length, ss τ 35 0 y) ∧ ∀ z, z < 2 ^ 31 → f_X8_untaggedAt N (nI z) (ss τ 35 0 y) = some (pick z 0 U (-1), ss τ 35 0 y) := by
    intro x y τ ht
    have hc : ∀ c, c ≠ 0 → c ≠ 32 → c ≠ 34 → τ c = σ c := by
      intro c c1 c2 c3
      have : τ c = σ1 c := by rcases ht with rfl | rfl; · rfl
                              · exact ss_c c3
      rw [this, a5 c c1 c2]
    have h15 : ss τ 35 0 y 35 15 = nI ns := by
      show τ 35 15 = _
      rw [hc 35 (by decide) (by decide) (by decide)]; exact n8
    have hs : ∀ j, j < ns → ss τ 35 0 y 46 j = nI (sh j) ∧ sh j < 200 := by
      show ∀ j, j < ns → τ 46 j = nI (sh j) ∧ sh j < 200
      rw [hc 46 (by decide) (by decide) (by decide)]; exact hP.1
    have ho : ∀ c, c < 200 → f_X8_ownerOf N (nI c) (ss τ 35 0 y) = some (σ 7 (60 + c), ss τ 35 0 y) := by
      intro c hc9
      have := x8_owner (N := N) (by omega) (σ := ss τ 35 0 y) (ne := ne) (nk := nk) (kp := kp) (kn := kn) (by show τ 35 8 = _; rw [hc 35 (by decide) (by decide) (by decide)]; exact n7) (by omega) n12 (by show gK (τ 42) (τ 43) _ _ _ _; rw [hc 42 (by decide) (by decide) (by decide), hc 43 (by decide) (by decide) (by decide)]; exact hK) (by show gT (τ 5) (τ 6) (τ 7) (τ 8) _ _ _; rw [hc 5 (by decide) (by decide) (by decide), hc 6 (by decide) (by decide) (by decide), hc 7 (by decide) (by decide) (by decide), hc 8 (by decide) (by decide) (by decide)]; exact hT) hc9
      rw [this]
      show some (τ 7 (60 + c), ss τ 35 0 y) = _
      rw [hc 7 (by decide) (by decide) (by decide)]
    exact ⟨by rw [x8_count (by omega) n15 h15 hs ho, hU], fun z hz => by rw [x8_uat (by omega) n15 hz h15 hs ho, hU]⟩
  by_cases ha1 : a = -1
  · subst ha1
    refine ⟨0, ss σ1 34 0 (nI U.length), nI U.length, ss (ss σ1 34 0 (nI U.length)) 35 0 0, ?_, ?_, rfl, fun _ => rfl, (hag (nI U.length) 0 _ (Or.inr rfl) 0).2⟩
    · rw [f_L_untagged, f_X7_untagged, a1, cI_eq, if_pos rfl, lt_eq, a2]; rfl
    · rw [f_X8_untagged, st_eq, if_pos rfl, (href (nI U.length) 0 _ (Or.inr rfl)).1, cI_eq]
  · rcases pk_ix a (n := U.length) (by omega) with ha | ha | ⟨z, z1, rfl⟩
    · refine ⟨1, σ1, 0, ss (ss σ1 35 0 0) 35 0 1, ?_, ?_, rfl, fun h => absurd h (by decide), (hag 0 0 _ (Or.inl rfl) 1).1⟩
      · rw [f_L_untagged, f_X7_untagged, a1, cI_eq, if_neg ha1, if_pos ha]; rfl
      · rw [f_X8_untagged, st_eq, if_neg ha1, if_neg (nle_of_lt ha), st_eq, lt_eq, if_neg (thrP _)]
    · have ha0 : ¬ a < 0 := fun g => by
        rw [Int32.lt_iff_toInt_lt] at g
        rw [Int32.le_iff_toInt_le, nI_toInt (by omega)] at ha
        have e2 : (0 : Int32).toInt = 0 := by decide
        omega
      refine ⟨1, σ1, 0, ss (ss σ1 35 0 0) 35 0 1, ?_, ?_, rfl, fun h => absurd h (by decide), (hag 0 0 _ (Or.inl rfl) 1).1⟩
      · rw [f_L_untagged, f_X7_untagged, a1, cI_eq, if_neg ha1, if_neg ha0, lt_eq, a2, if_neg (fun g => nle_of_lt g ha)]; rfl
      · obtain ⟨z, hz, rfl⟩ := nI_of ha0
        rw [leN (by omega) hz] at ha
        rw [f_X8_untagged, st_eq, if_neg ha1, if_pos (le_of_nlt ha0), (href 0 0 _ (Or.inl rfl)).2 z hz, cI_eq, if_pos (by unfold pick; rw [if_neg (by omega)]), st_eq, lt_eq, if_neg (thrP _)]
    · have hm : gl U z < 200 := by
        have := gl_mem z1
        rw [hU] at this
        obtain ⟨i, i1, i2⟩ := Ul_mem this
        rw [← hU] at i2
        have := (hP.1 i i1).2
        omega
      refine ⟨0, ss σ1 34 0 (nI (gl U z)), nI (gl U z), ss (ss (ss σ1 34 0 (nI (gl U z))) 35 0 0) 35 0 0, ?_, ?_, rfl, fun _ => rfl, (hag (nI (gl U z)) 0 _ (Or.inr rfl) 0).1⟩
      · rw [f_L_untagged, f_X7_untagged, a1, cI_eq, if_neg ha1, if_neg (nI_pos (by omega)), lt_eq, a2, if_pos (nI_lt z1 (by omega)), rdA_v z (nI (gl U z)) rfl (by omega) (by decide) (by
          have := wrL_at (f := σ 32) (a := 0) z1
          rw [Nat.zero_add] at this
          rw [a3]; exact this)]
        rfl
      · have hpk : pick z 0 U (-1) = nI (gl U z) := by unfold pick; rw [if_pos (by omega), Nat.sub_zero]
        rw [f_X8_untagged, st_eq, if_neg ha1, if_pos (nI_pos' (by omega)), (href (nI (gl U z)) 0 _ (Or.inr rfl)).2 z (by omega), cI_eq, hpk, if_neg (m1_ne (by omega)), st_eq, lt_eq, if_pos (thr0 _)]
