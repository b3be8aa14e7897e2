/-- the reference's walk after a reading of the class -/
theorem ref_go {σ : Sg} {ne nk np nt ns nf : Nat} {kp kn sh : Nat → Nat} (hIA : IA σ ne nk np nt ns nf kp kn sh) {N : Nat} {L H : List Nat} (rg : RG N (lvN (σ 37)) kp kn σ L H) {σ1 : Sg} (h1 : ∀ c, c ≠ 9 → c ≠ 10 → c ≠ 11 → c ≠ 16 → c ≠ 17 → c ≠ 18 → c ≠ 19 → c ≠ 34 → σ1 c = σ c) : ∃ σ2, f_X8_go N σ1 = some (0, σ2) ∧ σ2 35 17 = nI (0 :: L.map kn).length ∧ σ2 47 = wrL (σ1 47) 0 (0 :: L.map kn) ∧ σ2 48 = wrL (σ1 48) 0 (0 :: L.map kp) ∧ HR σ2 (lvN (σ 37)) (gl H) H.length ∧ σ2 34 = σ1 34 ∧ σ2 37 = σ 37 ∧ (∀ x, Inv (ss σ2 35 0 x)) ∧ (∀ x y, Inv (ss (ss σ2 35 0 x) 35 0 y)) := by
  obtain ⟨σ2, b1, b2, b3, b4, b5, b6, b7⟩ := rg σ1 (by rw [h1 35 (by decide) (by decide) (by decide) (by decide) (by decide) (by decide) (by decide) (by decide)]) (fun c c1 c2 => h1 c (by omega) (by omega) (by omega) (by omega) (by omega) (by omega) (by omega) (by omega))
  have hI2 : Inv σ2 := by
    refine Inv_ag hIA (fun c hc hc2 => ?_) ?_ ?_
    · rw [b7 c (by rintro rfl; exact absurd hc (by decide)) (by rintro rfl; exact absurd hc (by decide)) (by rintro rfl; exact absurd hc (by decide)) (by rintro rfl; exact absurd hc (by decide)) (by rintro rfl; exact absurd hc (by decide)) (by rintro rfl; exact absurd hc (by decide)) (by rintro rfl; exact absurd hc (by decide)), h1 c (by rintro rfl; exact absurd hc (by decide)) (by rintro rfl; exact absurd hc (by decide)) (by rintro rfl; exact absurd hc (by decide)) (by rintro rfl; exact absurd hc (by decide)) (by rintro rfl; exact absurd hc (by decide)) (by rintro rfl; exact absurd hc (by decide)) (by rintro rfl; exact absurd hc (by decide)) hc2]
    · rw [b7 0 (by decide) (by decide) (by decide) (by decide) (by decide) (by decide) (by decide), h1 0 (by decide) (by decide) (by decide) (by decide) (by decide) (by decide) (by decide) (by decide)]
    · have e : ∀ i, i ≠ 17 → i ≠ 22 → σ2 35 i = σ 35 i := fun i i1 i2 => by
        rw [b6 i i1 i2, h1 35 (by decide) (by decide) (by decide) (by decide) (by decide) (by decide) (by decide) (by decide)]
      exact ⟨e 1 (by decide) (by decide), e 8 (by decide) (by decide), e 11 (by decide) (by decide), e 12 (by decide) (by decide), e 15 (by decide) (by decide), e 25 (by decide) (by decide)⟩
  refine ⟨σ2, b1, b2, b3, b4, b5, b7 34 (by decide) (by decide) (by decide) (by decide) (by decide) (by decide) (by decide), ?_, fun x => hI2, fun x y => hI2⟩
  rw [b7 37 (by decide) (by decide) (by decide) (by decide) (by decide) (by decide) (by decide), h1 37 (by decide) (by decide) (by decide) (by decide) (by decide) (by decide) (by decide) (by decide)]
theorem op_at {σ : Sg} (hI : Inv σ) {N : Nat} (hN9 : 20000 ≤ N) (a b : Int32) : OpOK (f_L_at N a b) (f_X8_at N a b) σ := by
  obtain ⟨ne, nk, np, nt, ns, nf, kp, kn, sh, hIA⟩ := hI
  obtain ⟨L, H, hL, hL2, hpl, hHl, hHm, cf, ch, rg⟩ := walk_ex hIA hN9
  have hIA' := hIA
  obtain ⟨⟨n1, n2, n3, n4, n5, n6, n7, n8, n9, n10, n11, n12, n13, n14, n15, n16, n17⟩, hE, hV, hM, hK, hT, hP, hF⟩ := hIA
  obtain ⟨ix, hTr⟩ := Tr_ex hK
  have hLl := pigL hL hL2
  have hML : (0 :: L.map kn).length ≤ 160 := by rw [List.length_cons, List.length_map]; omega
  have hptn : ptn (0 :: L.map kn) = pts kn L := by rw [ptn, if_pos (by decide), ptn_map]
  have part_n : ∀ (σ2 : Sg) (f : Nat → Int32), σ2 35 17 = nI (0 :: L.map kn).length → σ2 47 = wrL f 0 (0 :: L.map kn) → ∀ a : Int32, a ≠ -1 → (∀ s, s < (pts kn L).length → a ≠ nI s) → f_X8_partAt N a σ2 = some (-1, σ2) := by
    intro σ2 f b2 b3 a ha hs
    have := partAt_n (N := N) hML (x1 := a) (fun v11 v12 σ13 => if a = (-1) then (some (v11, σ13)) else (some (v12, σ13))) (0 :: L.map kn) 0 0 N (-1) σ2 (fun i' hi' => by rw [b3, wrL_at hi']) (ML_rng hTr n12 hL2) (by omega) b2 (fun s hs' => by rw [Nat.zero_add]; exact hs s (by rw [← hptn]; exact hs')) (by omega) (by omega)
    rw [nI_0] at this
    rw [f_X8_partAt, this, if_neg ha]
  have hm1 : ∀ a : Int32, 0 ≤ a → a ≠ -1 := fun a h e => by rw [e] at h; exact absurd h (by decide)
  by_cases hb : b < 0 ∨ 2 < b
  · obtain ⟨σ2, b1, b2, b3, b4, b5, b6, b7, b8, b9⟩ := ref_go hIA' rg (σ1 := σ) (fun c _ _ _ _ _ _ _ _ => rfl)
    refine ⟨1, σ, 0, ss σ2 35 0 1, ?_, ?_, rfl, fun h => absurd h (by decide), b8 1⟩
    · rw [f_L_at, f_X7_at, needW_no hb]
      rfl
    · rw [f_X8_at, b1, cI_eq]
      by_cases ha : 0 ≤ a
      · rw [if_pos ha]
        by_cases hz : ∃ z, z < (pts kn L).length ∧ a = nI z
        · obtain ⟨z, z1, rfl⟩ := hz
          obtain ⟨q, q1, q2, q3⟩ := partAt_y (N := N) hML (z := z) (by omega) (fun v11 v12 σ13 => if nI z = (-1) then (some (v11, σ13)) else (some (v12, σ13))) (0 :: L.map kn) 0 0 N (-1) σ2 (fun i' hi' => by rw [b3, wrL_at hi']) (ML_rng hTr n12 hL2) (by omega) b2 (by omega) (by rw [hptn]; omega) (by omega) (by omega)
          rw [nI_0] at q3
          rw [f_X8_partAt, q3, if_neg (m1_ne (by omega)), cI_eq, if_neg (m1_ne (by omega)), in_no hb, cI_eq, if_pos rfl, st_eq, lt_eq, if_neg (thrP _)]
        · rw [part_n σ2 _ b2 b3 a (hm1 a ha) (fun s hs e => hz ⟨s, hs, e⟩), cI_eq, if_pos rfl, st_eq, lt_eq, if_neg (thrP _)]
      · rw [if_neg ha, st_eq, lt_eq, if_neg (thrP _)]
  · have hb1 : ¬ b < 0 := fun h => hb (Or.inl h)
    have hb2 : ¬ 2 < b := fun h => hb (Or.inr h)
    obtain ⟨σ1, a1, a2, a3, a4, a5, a6⟩ := cf σ (fun c _ _ => rfl)
    rcases pk_ix a (n := (pts kn L).length) (by omega) with ha | ha | ⟨z, z1, rfl⟩
    · obtain ⟨σ2, b1, b2, b3, b4, b5, b6, b7, b8, b9⟩ := ref_go hIA' rg (σ1 := σ1) (fun c c1 c2 c3 _ _ _ _ _ => a6 c c1 c2 c3)
      refine ⟨1, σ1, 0, ss σ2 35 0 1, ?_, ?_, rfl, fun h => absurd h (by decide), b8 1⟩
      · rw [f_L_at, f_X7_at, needW_yes hb1 hb2, cT_r, a1, cI_eq, if_pos ha]
        rfl
      · rw [f_X8_at, b1, cI_eq, if_neg (nle_of_lt ha), st_eq, lt_eq, if_neg (thrP _)]
    · have ha0 : ¬ a < 0 := fun g => by
        rw [Int32.lt_iff_toInt_lt] at g
        rw [Int32.le_iff_toInt_le, nI_toInt (by omega)] at ha
        have e2 : (0 : Int32).toInt = 0 := by decide
        omega
      obtain ⟨σ2, b1, b2, b3, b4, b5, b6, b7, b8, b9⟩ := ref_go hIA' rg (σ1 := σ1) (fun c c1 c2 c3 _ _ _ _ _ => a6 c c1 c2 c3)
      refine ⟨1, σ1, 0, ss σ2 35 0 1, ?_, ?_, rfl, fun h => absurd h (by decide), b8 1⟩
      · rw [f_L_at, f_X7_at, needW_yes hb1 hb2, cT_r, a1, cI_eq, if_neg ha0, lt_eq, a3, if_neg (fun g => nle_of_lt g ha)]
        rfl
      · rw [f_X8_at, b1, cI_eq, if_pos (le_of_nlt ha0), part_n σ2 _ b2 b3 a (hm1 a (le_of_nlt ha0)) (fun s hs e => by rw [e, leN (by omega) (by omega)] at ha; omega), cI_eq, if_pos rfl, st_eq, lt_eq, if_neg (thrP _)]
    · obtain ⟨cd, hcd⟩ : ∃ cd, cd = gl (pts kn L) z := ⟨_, rfl⟩
      have hv : σ1 11 z = nI cd := by
        rw [a5, hcd]
        have := wrL_at (f := σ 11) (a := 0) z1
        rw [Nat.zero_add] at this
        exact this
      have hc7 : σ1 7 = σ 7 := a6 7 (by decide) (by decide) (by decide)
      obtain ⟨x, hx⟩ : ∃ x, x = (if b = 0 then nI cd / 20 else if b = 1 then nI cd - nI cd / 20 * 20 else σ 7 (60 + cd)) := ⟨_, rfl⟩
      obtain ⟨σ2, b1, b2, b3, b4, b5, b6, b7, b8, b9⟩ := ref_go hIA' rg (σ1 := ss σ1 34 0 x) (fun c c1 c2 c3 _ _ _ _ c34 => by rw [ss_c c34]; exact a6 c c1 c2 c3)
      obtain ⟨q, q1, q2, q3⟩ := partAt_y (N := N) hML (z := z) (by omega) (fun v11 v12 σ13 => if nI z = (-1) then (some (v11, σ13)) else (some (v12, σ13))) (0 :: L.map kn) 0 0 N (-1) σ2 (fun i' hi' => by rw [b3, wrL_at hi']) (ML_rng hTr n12 hL2) (by omega) b2 (by omega) (by rw [hptn]; omega) (by omega) (by omega)
      rw [hptn, Nat.sub_zero, ← hcd] at q2
      obtain ⟨q, rfl⟩ : ∃ q', q = q' + 1 := by
        cases q with
        | zero => rw [gl_0] at q2; omega
        | succ q => exact ⟨q, rfl⟩
      rw [List.length_cons, List.length_map] at q1
      have hq : q < L.length := by omega
      have htn : gl L q < nk := hL2 _ (gl_mem hq)
      rw [gl_s, gl_map kn hq] at q2
      have hcd2 : cd < 200 := by rcases hTr.2.1 _ htn with g | g <;> omega
      have h7 : σ 7 (60 + cd) = nI (kp (gl L q)) := by
        have := hT.2.2.1 _ htn
        rw [q2, nd_c] at this
        exact this
      have e47 : σ2 47 (q + 1) = nI (1000 + cd) := by
        have := wrL_at (f := ss σ1 34 0 x 47) (a := 0) (L := 0 :: L.map kn) (i := q + 1) (by rw [List.length_cons, List.length_map]; omega)
        rw [Nat.zero_add, gl_s, gl_map kn hq, q2] at this
        rw [b3]; exact this
      have e48 : σ2 48 (q + 1) = nI (kp (gl L q)) := by
        have := wrL_at (f := ss σ1 34 0 x 48) (a := 0) (L := 0 :: L.map kp) (i := q + 1) (by rw [List.length_cons, List.length_map]; omega)
        rw [Nat.zero_add, gl_s, gl_map kp hq] at this
        rw [b4]; exact this
      rw [nI_0, Nat.zero_add, Nat.zero_add] at q3
      refine ⟨0, ss σ1 34 0 x, x, ss σ2 35 0 0, ?_, ?_, rfl, fun _ => ?_, b8 0⟩
      · rw [f_L_at, f_X7_at, needW_yes hb1 hb2, cT_r, a1, cI_eq, if_neg (nI_pos (by omega)), lt_eq, a3, if_pos (nI_lt z1 (by omega)), rdA_v z (nI cd) rfl (by omega) (by decide) hv]
        by_cases g0 : b = 0
        · rw [if_pos g0] at hx ⊢; rw [hx]; rfl
        · rw [if_neg g0] at hx ⊢
          by_cases g1 : b = 1
          · rw [if_pos g1] at hx ⊢; rw [hx]; rfl
          · rw [if_neg g1] at hx ⊢
            rw [x6_holder hcd2, cI_eq, hc7, hx]; rfl
      · rw [f_X8_at, b1, cI_eq, if_pos (nI_pos' (by omega)), f_X8_partAt, q3, if_neg (m1_ne (by omega)), cI_eq, if_neg (m1_ne (by omega)), in_yes hb1 hb2, cI_eq, if_neg (by decide), st_eq, lt_eq, if_pos (thr0 _), rdA_v (q + 1) (nI (1000 + cd)) rfl (by omega) (by decide) (by exact e47), lt_eq]
        have e3 : nI (1000 + cd) - 1000 = nI cd := by
          rw [← nI_add, show (1000 : Int32) = nI 1000 from rfl, Int32.add_comm, Int32.add_sub_cancel]
        rw [e3]
        by_cases g0 : b = 0
        · rw [if_pos g0] at hx ⊢; rw [hx]
        · rw [if_neg g0] at hx ⊢
          by_cases g1 : b = 1
          · rw [if_pos g1] at hx ⊢; rw [hx]
          · rw [if_neg g1] at hx ⊢
            rw [rdA_v (q + 1) (nI (kp (gl L q))) rfl (by omega) (by decide) (by exact e48), hx, h7]
      · show σ2 34 0 = x
        rw [b6]; rfl
theorem op_outline {σ : Sg} (hI : Inv σ) {N : Nat} (hN9 : 20000 ≤ N) (a b : Int32) : OpOK (f_L_outline N a b) (f_X8_outline N a b) σ := by
  obtain ⟨ne, nk, np, nt, ns, nf, kp, kn, sh, hIA⟩ := hI
  obtain ⟨L, H, hL, hL2, hpl, hHl, hHm, cf, ch, rg⟩ := walk_ex hIA hN9
  have hIA' := hIA
  obtain ⟨⟨n1, n2, n3, n4, n5, n6, n7, n8, n9, n10, n11, n12, n13, n14, n15, n16, n17⟩, hE, hV, hM, hK, hT, hP, hF⟩ := hIA
  obtain ⟨σ1, a1, a2, a6⟩ := ch σ (fun c _ _ => rfl) rfl
  have hin : ∀ {a : Int32}, (a < 0 ∨ nI H.length ≤ a) → (a < 0 ∨ nI H.length - 1 < a) := by
    intro a h
    rcases h with h | h
    · exact Or.inl h
    · by_cases ha : a < 0
      · exact Or.inl ha
      · refine Or.inr ?_
        obtain ⟨i, hi, rfl⟩ := nI_of ha
        rw [leN (by omega) hi] at h
        rw [Int32.lt_iff_toInt_lt, nI_toInt hi]
        by_cases h0 : H.length = 0
        · rw [h0]
          have : (nI 0 - 1).toInt = -1 := by decide
          omega
        · rw [nI_m1 (by omega), nI_toInt (by omega)]
          omega
  have thrown : a ≠ -1 → (a < 0 ∨ nI H.length ≤ a ∨ (b < 0 ∨ 2 < b)) → OpOK (f_L_outline N a b) (f_X8_outline N a b) σ := by
    intro ha1 hbad
    obtain ⟨σ2, b1, b2, b3, b4, b5, b6, b7, b8, b9⟩ := ref_go hIA' rg (σ1 := σ1) (fun c c1 c2 c3 c4 c5 c6 c7 _ => a6 c c1 c2 c3 c4 c5 c6 c7)
    refine ⟨1, σ1, 0, ss (ss σ2 35 0 0) 35 0 1, ?_, ?_, rfl, fun h => absurd h (by decide), b9 0 1⟩
    · rw [f_L_outline, f_X7_outline, a1, cI_eq, if_neg ha1]
      by_cases hb : b < 0 ∨ 2 < b
      · rw [needW_no hb]; rfl
      · rw [needW_yes (fun h => hb (Or.inl h)) (fun h => hb (Or.inr h)), cT_r]
        by_cases ha0 : a < 0
        · rw [if_pos ha0]; rfl
        · have : nI H.length ≤ a := by
            rcases hbad with g | g | g
            · exact absurd g ha0
            · exact g
            · exact absurd g hb
          rw [if_neg ha0, lt_eq, a2.1, if_neg (fun g => nle_of_lt g this)]; rfl
    · rw [f_X8_outline, b1, cI_eq, st_eq, if_neg ha1, lt_eq, show ss σ2 35 0 0 35 22 = nI H.length from b5.1]
      by_cases hA : a < 0 ∨ nI H.length ≤ a
      · rw [in_no (hin hA), cI_eq, if_pos rfl, st_eq, lt_eq, if_neg (thrP _)]
      · have hA1 : ¬ a < 0 := fun g => hA (Or.inl g)
        have hb : b < 0 ∨ 2 < b := by
          rcases hbad with g | g | g
          · exact absurd g hA1
          · exact absurd (Or.inr g) hA
          · exact g
        have hA2 : ¬ nI H.length - 1 < a := by
          intro g
          obtain ⟨i, hi, rfl⟩ := nI_of hA1
          have h9 : ¬ nI H.length ≤ nI i := fun g => hA (Or.inr g)
          rw [leN (by omega) hi] at h9
          rw [nI_m1 (by omega), ltN (by omega) hi] at g
          omega
        rw [in_yes hA1 hA2, cI_eq, if_neg (by decide), in_no hb, cI_eq, if_pos rfl, st_eq, lt_eq, if_neg (thrP _)]
  by_cases ha1 : a = -1
  · subst ha1
    obtain ⟨σ2, b1, b2, b3, b4, b5, b6, b7, b8, b9⟩ := ref_go hIA' rg (σ1 := ss σ1 34 0 (nI H.length)) (fun c c1 c2 c3 c4 c5 c6 c7 c34 => by rw [ss_c c34]; exact a6 c c1 c2 c3 c4 c5 c6 c7)
    refine ⟨0, ss σ1 34 0 (nI H.length), nI H.length, ss σ2 35 0 0, ?_, ?_, rfl, fun _ => ?_, b8 0⟩
    · rw [f_L_outline, f_X7_outline, a1, cI_eq, if_pos rfl, lt_eq, a2.1]; rfl
    · rw [f_X8_outline, b1, cI_eq, st_eq, if_pos rfl, lt_eq, show ss σ2 35 0 0 35 22 = nI H.length from b5.1]
    · show σ2 34 0 = _
      rw [b6]; rfl
  · by_cases hb : b < 0 ∨ 2 < b
    · exact thrown ha1 (Or.inr (Or.inr hb))
    · rcases pk_ix a (n := H.length) (by omega) with ha | ha | ⟨z, z1, rfl⟩
      · exact thrown ha1 (Or.inl ha)
      · exact thrown ha1 (Or.inr (Or.inl ha))
      · have hb1 : ¬ b < 0 := fun h => hb (Or.inl h)
        have hb2 : ¬ 2 < b := fun h => hb (Or.inr h)
        obtain ⟨c1, c2, c3⟩ := a2.2 z z1
        have hhz : gl H z < 60 := by have := hHm _ (gl_mem z1); omega
        obtain ⟨x, hx⟩ : ∃ x, x = (if b = 0 then nI (gl H z) else if b = 1 then nI (Dt (lvN (σ 37)) (gl H) H.length z) else nI (lvN (σ 37) (gl H z))) := ⟨_, rfl⟩
        obtain ⟨σ2, b1, b2, b3, b4, b5, b6, b7, b8, b9⟩ := ref_go hIA' rg (σ1 := ss σ1 34 0 x) (fun c c1 c2 c3 c4 c5 c6 c7 c34 => by rw [ss_c c34]; exact a6 c c1 c2 c3 c4 c5 c6 c7)
        obtain ⟨d1, d2⟩ := b5.2 z z1
        refine ⟨0, ss σ1 34 0 x, x, ss (ss σ2 35 0 0) 35 0 0, ?_, ?_, rfl, fun _ => ?_, b9 0 0⟩
        · rw [f_L_outline, f_X7_outline, a1, cI_eq, if_neg ha1, needW_yes hb1 hb2, cT_r, if_neg (nI_pos (by omega)), lt_eq, a2.1, if_pos (nI_lt z1 (by omega))]
          by_cases g0 : b = 0
          · rw [if_pos g0] at hx ⊢; rw [rdA_eq _ z rfl (by omega) (by decide), c1, hx]; rfl
          · rw [if_neg g0] at hx ⊢
            by_cases g1 : b = 1
            · rw [if_pos g1] at hx ⊢; rw [rdA_eq _ z rfl (by omega) (by decide), c3, hx]; rfl
            · rw [if_neg g1] at hx ⊢; rw [rdA_eq _ z rfl (by omega) (by decide), c2, hx]; rfl
        · rw [f_X8_outline, b1, cI_eq, st_eq, if_neg ha1, lt_eq, show ss σ2 35 0 0 35 22 = nI H.length from b5.1, in_yes (nI_pos (by omega)) (by rw [nI_m1 (by omega), ltN (by omega) (by omega)]; omega), cI_eq, if_neg (by decide), in_yes hb1 hb2, cI_eq, if_neg (by decide), st_eq, lt_eq, if_pos (thr0 _)]
          by_cases g0 : b = 0
          · rw [if_pos g0] at hx ⊢; rw [rdA_v z (nI (gl H z)) rfl (by omega) (by decide) (by exact d1), hx]
          · rw [if_neg g0] at hx ⊢
            by_cases g1 : b = 1
            · rw [if_pos g1] at hx ⊢; rw [rdA_v z _ rfl (by omega) (by decide) (by exact d2), hx]
            · rw [if_neg g1] at hx ⊢
              rw [rdA_v z (nI (gl H z)) rfl (by omega) (by decide) (by exact d1), rdA_v (gl H z) (nI (lvN (σ 37) (gl H z))) rfl hhz (by decide) (by
                show σ2 37 (gl H z) = _
                rw [b7]
                exact (lvN_eq (hV.2.2.1 _ hhz)).1), hx]
        · show σ2 34 0 = x
          rw [b6]; rfl
