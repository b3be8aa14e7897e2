def fAll (σ : Sg) (ne nk nt : Nat) (kp kn ix lv : Nat → Nat) (H U ML MP : List Nat) : List (Int32 × Int32 × Int32) := [] ++ flt (xk 1) (Q1 σ) ne 0 ++ flt (xk 2) (Q2 σ) ne 0 ++ flt (x3 lv H) (Q3 lv H) H.length 0 ++ flt (xk 4) (Q4 σ kp ix) ne 0 ++ flt (xk 5) (Q5 σ kp kn nk) ne 0 ++ flt (xk 6) (Q6 σ) ne 0 ++ flt (xk 7) (Q7 σ kp nk) ne 0 ++ flt (x8k σ) (fun _ => true) nt 0 ++ flt (x9k U) (fun _ => true) U.length 0 ++ flt (x10 (gl ML) (gl MP)) (Q10 (ppN σ) (gl ML)) ML.length 0
theorem chk_len {σ : Sg} {ne nk np nt ns nf : Nat} {kp kn sh ix : Nat → Nat} {N : Nat} (hIA : IA σ ne nk np nt ns nf kp kn sh) (hTr : Tr kp kn ix nk ne) (hN9 : 20000 ≤ N) {L H U ML MP : List Nat} {lv : Nat → Nat} (hL : L.Nodup) (hL2 : ∀ t, t ∈ L → t < nk) (hpl : (pts kn L).length ≤ np) (hHl : H.length ≤ 60) (hHm : ∀ x, x ∈ H → x < ne) (hlvd : lv = lvN (σ 37)) (hU : U = Ul (σ 7) sh ns 10 0) (hML : ML = 0 :: L.map kn) (hMP : MP = 0 :: L.map kp) : (fAll σ ne nk nt kp kn ix lv H U ML MP).length ≤ 700 := by
  have h60 := ne60 hIA
  have n1 : 1 ≤ ne := hIA.1.2.2.2.2.2.2.2.2.2.2.1
  have n13 : np ≤ 100 := hIA.1.2.2.2.2.2.2.2.2.2.2.2.2.1
  have n14 : nt ≤ 40 := hIA.1.2.2.2.2.2.2.2.2.2.2.2.2.2.1
  have n15 : ns ≤ 200 := hIA.1.2.2.2.2.2.2.2.2.2.2.2.2.2.2.1
  have n17 : nk + 1 = ne + np := hIA.1.2.2.2.2.2.2.2.2.2.2.2.2.2.2.2.2
  have hLl := pigL hL hL2
  have hlv : ∀ x, x < 60 → σ 37 x = nI (lvN (σ 37) x) ∧ lvN (σ 37) x ≤ 6 := fun x hx => lvN_eq (hIA.2.2.1.2.2.1 x hx)
  rw [← hlvd] at hlv
  have hUl : U.length ≤ 200 := by
    have hl := Ul_le (σ 7) sh ns 10 0
    have hl2 := sumc_le sh 10 ns
    rw [Nat.zero_add, ← hU] at hl
    omega
  have hMLl : ML.length = L.length + 1 := by rw [hML, List.length_cons, List.length_map]
  have hMPl : MP.length = L.length + 1 := by rw [hMP, List.length_cons, List.length_map]
  have hptn : ptn ML = pts kn L := by rw [hML, ptn, if_pos (by decide), ptn_map]
  have hMr : ∀ j, j < ML.length → gl ML j < 60 ∨ (1000 ≤ gl ML j ∧ gl ML j < 1200) := fun j hj => by
    have := ML_rng hTr h60 hL2 (gl ML j) (by rw [← hML]; exact gl_mem hj)
    exact this
  have hMh : ∀ j, j < ML.length → gl ML j < 60 ∨ (1000 ≤ gl ML j ∧ gl ML j < 1200 ∧ σ 7 (60 + (gl ML j - 1000)) = nI (gl MP j)) := by
    intro j hj
    rcases hMr j hj with g | g
    · exact Or.inl g
    · refine Or.inr ⟨g.1, g.2, ?_⟩
      cases j with
      | zero => rw [hML, gl_0] at g; omega
      | succ j =>
        have hj2 : j < L.length := by omega
        have ht := hL2 _ (gl_mem hj2)
        have := hIA.2.2.2.2.2.1.2.2.1 _ ht
        rw [hML, gl_s, gl_map kn hj2] at g ⊢
        rw [hMP, gl_s, gl_map kp hj2]
        rw [show kn (gl L j) = 1000 + (kn (gl L j) - 1000) by omega, nd_c] at this
        exact this
  unfold fAll
  have q1 := fl_ex (xk 1) (xk 2) (Q1 σ) (Q2 σ) (fun e h => by
    have h1 := h.1
    have h2 := h.2
    simp [Q1] at h1
    simp [Q2, h1] at h2) ne 0
  have q3 := fl_le (x3 lv H) (Q3 lv H) H.length 0
  have q4 := fl_le (xk 4) (Q4 σ kp ix) ne 0
  have q5 := fl_le (xk 5) (Q5 σ kp kn nk) ne 0
  have q6 := fl_le (xk 6) (Q6 σ) ne 0
  have q7 := fl_le (xk 7) (Q7 σ kp nk) ne 0
  have q8 := fl_le (x8k σ) (fun _ => true) nt 0
  have q9 := fl_le (x9k U) (fun _ => true) U.length 0
  have q10 := q10_le (x := x10 (gl ML) (gl MP)) (pp := ppN σ) (m := gl ML) ML 0 (fun i' _ => by rw [Nat.zero_add])
  rw [hptn] at q10
  generalize hf1 : flt (xk 1) (Q1 σ) ne 0 = f1 at q1 ⊢
  generalize hf2 : flt (xk 2) (Q2 σ) ne 0 = f2 at q1 ⊢
  generalize hf3 : flt (x3 lv H) (Q3 lv H) H.length 0 = f3 at q3 ⊢
  generalize hf4 : flt (xk 4) (Q4 σ kp ix) ne 0 = f4 at q4 ⊢
  generalize hf5 : flt (xk 5) (Q5 σ kp kn nk) ne 0 = f5 at q5 ⊢
  generalize hf6 : flt (xk 6) (Q6 σ) ne 0 = f6 at q6 ⊢
  generalize hf7 : flt (xk 7) (Q7 σ kp nk) ne 0 = f7 at q7 ⊢
  generalize hf8 : flt (x8k σ) (fun _ => true) nt 0 = f8 at q8 ⊢
  generalize hf9 : flt (x9k U) (fun _ => true) U.length 0 = f9 at q9 ⊢
  generalize hf10 : flt (x10 (gl ML) (gl MP)) (Q10 (ppN σ) (gl ML)) ML.length 0 = f10 at q10 ⊢
  simp; omega
def ckB (N : Nat) (σ11 : Sg) : Option (Int32 × Sg) := cI (f_X7_findFiguresWithoutWords N σ11) (fun v12 σ13 => cI (f_X7_findElementsWithoutKids N σ13) (fun v14 σ15 => cI (f_X7_findRepeats N σ15) (fun v16 σ17 => cI (f_X7_findUntagged N σ17) (fun v18 σ19 => cI (f_X7_findOutOfOrder N σ19) (fun v20 σ21 => lt (σ21 22 3) (fun v22 => some (v22, σ21)))))))
theorem chk_c1 {σ : Sg} {ne nk np nt ns nf : Nat} {kp kn sh ix : Nat → Nat} {N : Nat} (hIA : IA σ ne nk np nt ns nf kp kn sh) (hTr : Tr kp kn ix nk ne) (hN9 : 20000 ≤ N) {H : List Nat} {lv : Nat → Nat} (hHl : H.length ≤ 60) (hHm : ∀ x, x ∈ H → x < ne) (hlv : ∀ x, x < 60 → σ 37 x = nI (lv x) ∧ lv x ≤ 6) (ch : CH N lv σ H) : ∃ t6, f_X7_check N σ = ckB N t6 ∧ AgC σ t6 ∧ FC t6 ([] ++ flt (xk 1) (Q1 σ) ne 0 ++ flt (xk 2) (Q2 σ) ne 0 ++ flt (x3 lv H) (Q3 lv H) H.length 0 ++ flt (xk 4) (Q4 σ kp ix) ne 0 ++ flt (xk 5) (Q5 σ kp kn nk) ne 0) := by
  have h60 := ne60 hIA
  have q1 := fl_le (xk 1) (Q1 σ) ne 0
  have q2 := fl_le (xk 2) (Q2 σ) ne 0
  have q3 := fl_le (x3 lv H) (Q3 lv H) H.length 0
  have q4 := fl_le (xk 4) (Q4 σ kp ix) ne 0
  have hA0 : AgC σ (ss σ 22 3 0) := ⟨fun c hc => ss_c (by rintro rfl; exact absurd hc (by decide)), rfl⟩
  have hF0 : FC (ss σ 22 3 0) [] := ⟨rfl, fun i hi => absurd hi (by simp)⟩
  obtain ⟨t1, k1, A1, _, F1⟩ := c_kind1 (N := N) hIA (by omega) (fun σ10 => some (0, σ10)) hA0 hF0 (by simp only [List.length_append, List.length_nil]; omega)
  obtain ⟨t2, k2, A2, _, F2⟩ := c_kind2 (N := N) hIA (by omega) (fun σ10 => some (0, σ10)) A1 F1 (by simp only [List.length_append, List.length_nil]; omega)
  obtain ⟨t3, g1, g2, g3⟩ := ch t2 (fun c c1 c2 => A2.1 c (by unfold Wc; simp; omega)) (A2.1 26 rfl)
  have A3 : AgC σ t3 := ag_w A2 (fun c hc => g3 c (by rintro rfl; exact absurd hc (by decide)) (by rintro rfl; exact absurd hc (by decide)) (by rintro rfl; exact absurd hc (by decide)) (by rintro rfl; exact absurd hc (by decide)) (by rintro rfl; exact absurd hc (by decide)) (by rintro rfl; exact absurd hc (by decide)) (by rintro rfl; exact absurd hc (by decide))) (by rw [g3 0 (by decide) (by decide) (by decide) (by decide) (by decide) (by decide) (by decide)])
  have F2' : FC t3 _ := fc_w F2 (fun c c1 c2 => g3 c (by omega) (by omega) (by omega) (by omega) (by omega) (by omega) (by omega))
  obtain ⟨t4, k3, A4, _, F3⟩ := c_kind3 (N := N) (fun x hx => (hlv x (by have := hHm x hx; omega)).2) hHl (by omega) (fun σ12 => some (0, σ12)) A3 g2 F2' (by simp only [List.length_append, List.length_nil]; omega)
  obtain ⟨t5, k4, A5, _, F4⟩ := c_kind4 (N := N) hIA hTr (by omega) (fun σ16 => some (0, σ16)) A4 F3 (by simp only [List.length_append, List.length_nil]; omega)
  obtain ⟨t6, k5, A6, _, F5⟩ := c_kind5 (N := N) hIA hTr (by omega) (fun σ14 => some (0, σ14)) A5 F4 (by simp only [List.length_append, List.length_nil]; omega)
  refine ⟨t6, ?_, A6, F5⟩
  rw [nI_0] at k1 k2 k5
  have k4' : f_X7_findMisplaced_2 N (fun σ16 => some (0, σ16)) N 1 t4 = some (0, t5) := k4
  rw [f_X7_check, st_eq, f_X7_findElementsWithoutStandard, k1, cI_eq, f_X7_findHeadingsWithoutLevel, k2, cI_eq, f_X7_findSkippedLevels, g1, cI_eq, k3, cI_eq, f_X7_findMisplaced, k4', cI_eq, f_X7_findUnevenTables, k5, cI_eq]
  rfl
theorem chk_c2 {σ : Sg} {ne nk np nt ns nf : Nat} {kp kn sh ix : Nat → Nat} {N : Nat} (hIA : IA σ ne nk np nt ns nf kp kn sh) (hTr : Tr kp kn ix nk ne) (hN9 : 20000 ≤ N) {L H U ML MP : List Nat} {lv : Nat → Nat} (hL : L.Nodup) (hL2 : ∀ t, t ∈ L → t < nk) (hpl : (pts kn L).length ≤ np) (hHl : H.length ≤ 60) (hHm : ∀ x, x ∈ H → x < ne) (hlvd : lv = lvN (σ 37)) (hU : U = Ul (σ 7) sh ns 10 0) (hML : ML = 0 :: L.map kn) (hMP : MP = 0 :: L.map kp) (cf : CF N kn σ L) {t6 : Sg} {G : List (Int32 × Int32 × Int32)} (A6 : AgC σ t6) (F5 : FC t6 G) (hG : G.length ≤ 300) : ∃ t14, ckB N t6 = some (nI (G ++ flt (xk 6) (Q6 σ) ne 0 ++ flt (xk 7) (Q7 σ kp nk) ne 0 ++ flt (x8k σ) (fun _ => true) nt 0 ++ flt (x9k U) (fun _ => true) U.length 0 ++ flt (x10 (gl ML) (gl MP)) (Q10 (ppN σ) (gl ML)) ML.length 0).length, t14) ∧ AgC σ t14 ∧ FC t14 (G ++ flt (xk 6) (Q6 σ) ne 0 ++ flt (xk 7) (Q7 σ kp nk) ne 0 ++ flt (x8k σ) (fun _ => true) nt 0 ++ flt (x9k U) (fun _ => true) U.length 0 ++ flt (x10 (gl ML) (gl MP)) (Q10 (ppN σ) (gl ML)) ML.length 0) := by
  have h60 := ne60 hIA
  have n1 : 1 ≤ ne := hIA.1.2.2.2.2.2.2.2.2.2.2.1
  have n13 : np ≤ 100 := hIA.1.2.2.2.2.2.2.2.2.2.2.2.2.1
  have n14 : nt ≤ 40 := hIA.1.2.2.2.2.2.2.2.2.2.2.2.2.2.1
  have n15 : ns ≤ 200 := hIA.1.2.2.2.2.2.2.2.2.2.2.2.2.2.2.1
  have n17 : nk + 1 = ne + np := hIA.1.2.2.2.2.2.2.2.2.2.2.2.2.2.2.2.2
  have hLl := pigL hL hL2
  have hlv : ∀ x, x < 60 → σ 37 x = nI (lvN (σ 37) x) ∧ lvN (σ 37) x ≤ 6 := fun x hx => lvN_eq (hIA.2.2.1.2.2.1 x hx)
  rw [← hlvd] at hlv
  have hUl : U.length ≤ 200 := by
    have hl := Ul_le (σ 7) sh ns 10 0
    have hl2 := sumc_le sh 10 ns
    rw [Nat.zero_add, ← hU] at hl
    omega
  have hMLl : ML.length = L.length + 1 := by rw [hML, List.length_cons, List.length_map]
  have hMPl : MP.length = L.length + 1 := by rw [hMP, List.length_cons, List.length_map]
  have hptn : ptn ML = pts kn L := by rw [hML, ptn, if_pos (by decide), ptn_map]
  have hMr : ∀ j, j < ML.length → gl ML j < 60 ∨ (1000 ≤ gl ML j ∧ gl ML j < 1200) := fun j hj => by
    have := ML_rng hTr h60 hL2 (gl ML j) (by rw [← hML]; exact gl_mem hj)
    exact this
  have hMh : ∀ j, j < ML.length → gl ML j < 60 ∨ (1000 ≤ gl ML j ∧ gl ML j < 1200 ∧ σ 7 (60 + (gl ML j - 1000)) = nI (gl MP j)) := by
    intro j hj
    rcases hMr j hj with g | g
    · exact Or.inl g
    · refine Or.inr ⟨g.1, g.2, ?_⟩
      cases j with
      | zero => rw [hML, gl_0] at g; omega
      | succ j =>
        have hj2 : j < L.length := by omega
        have ht := hL2 _ (gl_mem hj2)
        have := hIA.2.2.2.2.2.1.2.2.1 _ ht
        rw [hML, gl_s, gl_map kn hj2] at g ⊢
        rw [hMP, gl_s, gl_map kp hj2]
        rw [show kn (gl L j) = 1000 + (kn (gl L j) - 1000) by omega, nd_c] at this
        exact this
  have q6 := fl_le (xk 6) (Q6 σ) ne 0
  have q7 := fl_le (xk 7) (Q7 σ kp nk) ne 0
  have q8 := fl_le (x8k σ) (fun _ => true) nt 0
  have q9 := fl_le (x9k U) (fun _ => true) U.length 0
  obtain ⟨t7, k6, A7, _, F6⟩ := c_kind6 (N := N) hIA (by omega) (fun σ13 => some (0, σ13)) A6 F5 (by omega)
  obtain ⟨t8, k7, A8, _, F7⟩ := c_kind7 (N := N) hIA hTr (by omega) (fun σ14 => some (0, σ14)) A7 F6 (by simp only [List.length_append]; omega)
  obtain ⟨t9, k8, A9, _, F8⟩ := c_kind8 (N := N) hIA (by omega) (fun σ8 => some (0, σ8)) A8 F7 (by simp only [List.length_append]; omega)
  obtain ⟨t10, l1, l2, l3, l4, l5⟩ := x7_loose (N := N) (by omega) n15 (σ := t9) (sw := σ 46) (sh := sh) (by rw [A9.1 13 rfl, A9.1 14 rfl, A9.1 15 rfl]; exact hIA.2.2.2.2.2.2.1)
  rw [A9.1 7 rfl, ← hU] at l2 l3
  have A10 : AgC σ t10 := ag_w A9 (fun c hc => l5 c (by rintro rfl; exact absurd hc (by decide)) (by rintro rfl; exact absurd hc (by decide))) (l4 13 (by decide))
  have F8' := fc_w (τ' := t10) F8 (fun c c1 c2 => l5 c (by omega) (by omega))
  obtain ⟨t11, k9, A11, _, F9⟩ := c_kind9 (N := N) hUl (by omega) (fun σ9 => some (0, σ9)) A10 ⟨l2, fun i hi => by
    have := wrL_at (f := t9 32) (a := 0) hi
    rw [Nat.zero_add] at this
    rw [l3]; exact this⟩ F8' (by simp only [List.length_append]; omega)
  obtain ⟨t12, m1, m2, m3, m4, m5, m6⟩ := cf t11 (fun c c1 c2 => A11.1 c (by unfold Wc; simp; omega))
  have A12 : AgC σ t12 := ag_w A11 (fun c hc => m6 c (by rintro rfl; exact absurd hc (by decide)) (by rintro rfl; exact absurd hc (by decide)) (by rintro rfl; exact absurd hc (by decide))) (by rw [m6 0 (by decide) (by decide) (by decide)])
  have F9' := fc_w (τ' := t12) F9 (fun c c1 c2 => m6 c (by omega) (by omega) (by omega))
  obtain ⟨t13, o1, o2, o3⟩ := cf_fill (N := N) (fun σ4 => some (0, σ4)) 10 0 N t12 (by omega) (fun i hi => absurd hi (by omega)) (by omega)
  have A13 : AgC σ t13 := ag_w A12 (fun c hc => o3 c (by rintro rfl; exact absurd hc (by decide))) (by rw [o3 0 (by decide)])
  have F9'' := fc_w (τ' := t13) F9' (fun c c1 c2 => o3 c (by omega))
  obtain ⟨t14, k10, A14, F10⟩ := c_order (N := N) (m := gl ML) (mp := gl MP) hIA (by omega) (fun σ23 => some (0, σ23)) ML 0 0 N _ t13 (fun i' _ => by rw [Nat.zero_add]) (fun i' hi' => hMh i' (by omega)) (fun s hs => by
    rw [o3 11 (by decide), m5, ← hptn]
    exact wrL_at hs) (by rw [o3 9 (by decide), m3, hptn, Nat.zero_add]) (by rw [hptn]; omega) (fun p hp => by rw [o2 p hp]; exact ((la1_m1 (show lai (ppN σ) (gl ML) p 0 ≤ 1000 from Nat.zero_le _)).mpr rfl).symm) A13 F9'' (by rw [hptn]; simp only [List.length_append]; omega) (by omega)
  refine ⟨t14, ?_, A14, F10⟩
  rw [nI_0] at k6 k8 k9 o1 k10
  have k7' : f_X7_findElementsWithoutKids_2 N (fun σ14 => some (0, σ14)) N 1 t7 = some (0, t8) := k7
  rw [ckB, f_X7_findFiguresWithoutWords, k6, cI_eq, f_X7_findElementsWithoutKids, k7', cI_eq, f_X7_findRepeats, k8, cI_eq, f_X7_findUntagged, l1, cI_eq, k9, cI_eq, f_X7_findOutOfOrder, m1, cI_eq, f_J7_fill_33, o1, cI_eq, k10, cI_eq, lt_eq, F10.1]
theorem chk_r {σ : Sg} {ne nk np nt ns nf : Nat} {kp kn sh ix : Nat → Nat} {N : Nat} (hIA : IA σ ne nk np nt ns nf kp kn sh) (hTr : Tr kp kn ix nk ne) (hN9 : 20000 ≤ N) {L H U ML MP : List Nat} {lv : Nat → Nat} (hL : L.Nodup) (hL2 : ∀ t, t ∈ L → t < nk) (hpl : (pts kn L).length ≤ np) (hHl : H.length ≤ 60) (hHm : ∀ x, x ∈ H → x < ne) (hlvd : lv = lvN (σ 37)) (hU : U = Ul (σ 7) sh ns 10 0) (hML : ML = 0 :: L.map kn) (hMP : MP = 0 :: L.map kp) (rg : RG N lv kp kn σ L H) {t14 : Sg} (A14 : AgC σ t14) : ∃ u10, f_X8_check N t14 = some (nI (fAll σ ne nk nt kp kn ix lv H U ML MP).length, u10) ∧ FR u10 (fAll σ ne nk nt kp kn ix lv H U ML MP) ∧ (∀ c, Wr c = false → c ≠ 35 → c ≠ 47 → c ≠ 48 → c ≠ 49 → c ≠ 50 → c ≠ 51 → c ≠ 52 → u10 c = t14 c) ∧ ∀ i, i ≠ 0 → i ≠ 17 → i ≠ 22 → i ≠ 25 → u10 35 i = σ 35 i := by
  have h60 := ne60 hIA
  have n1 : 1 ≤ ne := hIA.1.2.2.2.2.2.2.2.2.2.2.1
  have n13 : np ≤ 100 := hIA.1.2.2.2.2.2.2.2.2.2.2.2.2.1
  have n14 : nt ≤ 40 := hIA.1.2.2.2.2.2.2.2.2.2.2.2.2.2.1
  have n15 : ns ≤ 200 := hIA.1.2.2.2.2.2.2.2.2.2.2.2.2.2.2.1
  have n17 : nk + 1 = ne + np := hIA.1.2.2.2.2.2.2.2.2.2.2.2.2.2.2.2.2
  have hLl := pigL hL hL2
  have hlv : ∀ x, x < 60 → σ 37 x = nI (lvN (σ 37) x) ∧ lvN (σ 37) x ≤ 6 := fun x hx => lvN_eq (hIA.2.2.1.2.2.1 x hx)
  rw [← hlvd] at hlv
  have hUl : U.length ≤ 200 := by
    have hl := Ul_le (σ 7) sh ns 10 0
    have hl2 := sumc_le sh 10 ns
    rw [Nat.zero_add, ← hU] at hl
    omega
  have hMLl : ML.length = L.length + 1 := by rw [hML, List.length_cons, List.length_map]
  have hMPl : MP.length = L.length + 1 := by rw [hMP, List.length_cons, List.length_map]
  have hptn : ptn ML = pts kn L := by rw [hML, ptn, if_pos (by decide), ptn_map]
  have hMr : ∀ j, j < ML.length → gl ML j < 60 ∨ (1000 ≤ gl ML j ∧ gl ML j < 1200) := fun j hj => by
    have := ML_rng hTr h60 hL2 (gl ML j) (by rw [← hML]; exact gl_mem hj)
    exact this
  have hMh : ∀ j, j < ML.length → gl ML j < 60 ∨ (1000 ≤ gl ML j ∧ gl ML j < 1200 ∧ σ 7 (60 + (gl ML j - 1000)) = nI (gl MP j)) := by
    intro j hj
    rcases hMr j hj with g | g
    · exact Or.inl g
    · refine Or.inr ⟨g.1, g.2, ?_⟩
      cases j with
      | zero => rw [hML, gl_0] at g; omega
      | succ j =>
        have hj2 : j < L.length := by omega
        have ht := hL2 _ (gl_mem hj2)
        have := hIA.2.2.2.2.2.1.2.2.1 _ ht
        rw [hML, gl_s, gl_map kn hj2] at g ⊢
        rw [hMP, gl_s, gl_map kp hj2]
        rw [show kn (gl L j) = 1000 + (kn (gl L j) - 1000) by omega, nd_c] at this
        exact this
  unfold fAll
  have q1 := fl_ex (xk 1) (xk 2) (Q1 σ) (Q2 σ) (fun e h => by
    have h1 := h.1
    have h2 := h.2
    simp [Q1] at h1
    simp [Q2, h1] at h2) ne 0
  have q3 := fl_le (x3 lv H) (Q3 lv H) H.length 0
  have q4 := fl_le (xk 4) (Q4 σ kp ix) ne 0
  have q5 := fl_le (xk 5) (Q5 σ kp kn nk) ne 0
  have q6 := fl_le (xk 6) (Q6 σ) ne 0
  have q7 := fl_le (xk 7) (Q7 σ kp nk) ne 0
  have q8 := fl_le (x8k σ) (fun _ => true) nt 0
  have q9 := fl_le (x9k U) (fun _ => true) U.length 0
  have q10 := q10_le (x := x10 (gl ML) (gl MP)) (pp := ppN σ) (m := gl ML) ML 0 (fun i' _ => by rw [Nat.zero_add])
  rw [hptn] at q10
  generalize hf1 : flt (xk 1) (Q1 σ) ne 0 = f1 at q1 ⊢
  generalize hf2 : flt (xk 2) (Q2 σ) ne 0 = f2 at q1 ⊢
  generalize hf3 : flt (x3 lv H) (Q3 lv H) H.length 0 = f3 at q3 ⊢
  generalize hf4 : flt (xk 4) (Q4 σ kp ix) ne 0 = f4 at q4 ⊢
  generalize hf5 : flt (xk 5) (Q5 σ kp kn nk) ne 0 = f5 at q5 ⊢
  generalize hf6 : flt (xk 6) (Q6 σ) ne 0 = f6 at q6 ⊢
  generalize hf7 : flt (xk 7) (Q7 σ kp nk) ne 0 = f7 at q7 ⊢
  generalize hf8 : flt (x8k σ) (fun _ => true) nt 0 = f8 at q8 ⊢
  generalize hf9 : flt (x9k U) (fun _ => true) U.length 0 = f9 at q9 ⊢
  generalize hf10 : flt (x10 (gl ML) (gl MP)) (Q10 (ppN σ) (gl ML)) ML.length 0 = f10 at q10 ⊢
  obtain ⟨FF, hFF⟩ : ∃ FF, FF = [] ++ f1 ++ f2 ++ f3 ++ f4 ++ f5 ++ f6 ++ f7 ++ f8 ++ f9 ++ f10 := ⟨_, rfl⟩
  rw [← hFF]
  obtain ⟨s3, b1, b2, b3, b4, b5, b6, b7⟩ := rg (ss t14 35 0 0) (by
    show t14 35 8 = _
    rw [A14.1 35 rfl]) (fun c c1 c2 => by rw [ss_c (by omega)]; exact A14.1 c (by unfold Wc; simp; omega))
  have hb7 : ∀ c, c ≠ 35 → c ≠ 47 → c ≠ 48 → c ≠ 49 → c ≠ 50 → c ≠ 51 → c ≠ 52 → s3 c = t14 c := fun c c1 c2 c3 c4 c5 c6 c7 => by rw [b7 c c1 c2 c3 c4 c5 c6 c7, ss_c c1]
  obtain ⟨ρ, hρ⟩ : ∃ ρ : Sg, ρ = ss s3 35 25 0 := ⟨_, rfl⟩
  have hρc : ∀ c, c ≠ 35 → ρ c = s3 c := fun c hc => by rw [hρ, ss_c hc]
  have hρi : ∀ i, i ≠ 25 → ρ 35 i = s3 35 i := fun i hi => by
    rw [hρ]
    show upd (s3 35) 25 0 i = _
    rw [upd_n hi]
  have hB : RB σ ρ := by
    refine ⟨fun c c1 c2 => ?_, fun i i0 i1 i2 i3 => ?_⟩
    · rw [hρc c (by omega), hb7 c (by omega) (by omega) (by omega) (by omega) (by omega) (by omega) (by omega)]
      exact A14.1 c (by unfold Wc; simp; omega)
    · rw [hρi i i3, b6 i i1 i2]
      show upd (t14 35) 0 0 i = _
      rw [upd_n i0, A14.1 35 rfl]
  have hB7 : ∀ c, 5 ≤ c → c ≤ 8 → ρ c = σ c := fun c c1 c2 => by
    rw [hρc c (by omega), hb7 c (by omega) (by omega) (by omega) (by omega) (by omega) (by omega) (by omega)]
    exact A14.1 c (by unfold Wc; simp; omega)
  have hHR : HR ρ lv (gl H) H.length := by
    unfold HR
    rw [hρi 22 (by decide), hρc 51 (by decide), hρc 52 (by decide)]
    exact b5
  have B0 : AgR ρ ρ := ⟨fun c _ => rfl, fun i _ => rfl⟩
  have R0 : FR ρ [] := ⟨by rw [hρ]; rfl, fun i hi => absurd hi (by simp)⟩
  have hK7 : ∀ x, x < 60 → ρ 37 x = nI (lv x) := fun x hx => by rw [hB.1 37 (by decide) (by decide)]; exact (hlv x hx).1
  have fl1 : ∀ n : Nat, ([] ++ f1 ++ f2 ++ f3 ++ f4 ++ f5 ++ f6 ++ f7 ++ f8 ++ f9 ++ f10).length ≤ 700 := fun _ => by simp; omega
  obtain ⟨K9, hK9⟩ : ∃ K9 : Sg → Option (Int32 × Sg), K9 = (fun σ38 => cI (f_X8_addOrder N σ38) (fun v39 σ40 => lt (σ40 35 25) (fun v41 => some (v41, σ40)))) := ⟨_, rfl⟩
  obtain ⟨K8, hK8⟩ : ∃ K8 : Sg → Option (Int32 × Sg), K8 = (fun σ29 => f_X8_check_108 N K9 N 0 σ29) := ⟨_, rfl⟩
  obtain ⟨KK, hKK⟩ : ∃ KK : Sg → Option (Int32 × Sg), KK = (fun σ21 => f_X8_check_74 N K8 N 0 σ21) := ⟨_, rfl⟩
  obtain ⟨M, hM⟩ : ∃ M, N = M + 9 := ⟨N - 9, by omega⟩
  obtain ⟨u1, j1, B1, R1⟩ := r_kind (N := N) (kk := 1) hIA hB (by omega) (h_1 hIA hB (by omega)) (fun σ16 => lt ((1 : Int32) + 1) (fun v17 => f_X8_check_16 N KK (M + 8) v17 σ16)) B0 R0 (by rw [hf1]; simp; omega)
  rw [hf1] at R1
  obtain ⟨u2, j2, B2, R2⟩ := r_kind (N := N) (kk := 2) hIA hB (by omega) (h_2 hIA hB (by omega)) (fun σ16 => lt ((2 : Int32) + 1) (fun v17 => f_X8_check_16 N KK (M + 7) v17 σ16)) B1 R1 (by rw [hf2]; simp; omega)
  rw [hf2] at R2
  obtain ⟨u3, j3, B3, R3⟩ := r_kind3 (N := N) (fun x hx => (hlv x hx).2) (fun x hx => by have := hHm x hx; omega) hHl (by omega) hHR hK7 B2 R2 (by rw [hf3]; simp; omega)
  rw [hf3] at R3
  obtain ⟨u4, j4, B4, R4⟩ := r_kind (N := N) (kk := 4) hIA hB (by omega) (h_4 hIA hTr hB (by omega)) (fun σ16 => lt ((4 : Int32) + 1) (fun v17 => f_X8_check_16 N KK (M + 5) v17 σ16)) B3 R3 (by rw [hf4]; simp; omega)
  rw [hf4] at R4
  obtain ⟨u5, j5, B5, R5⟩ := r_kind (N := N) (kk := 5) hIA hB (by omega) (h_5 hIA hTr hB (by omega)) (fun σ16 => lt ((5 : Int32) + 1) (fun v17 => f_X8_check_16 N KK (M + 4) v17 σ16)) B4 R4 (by rw [hf5]; simp; omega)
  rw [hf5] at R5
  obtain ⟨u6, j6, B6, R6⟩ := r_kind (N := N) (kk := 6) hIA hB (by omega) (h_6 hIA hB (by omega)) (fun σ16 => lt ((6 : Int32) + 1) (fun v17 => f_X8_check_16 N KK (M + 3) v17 σ16)) B5 R5 (by rw [hf6]; simp; omega)
  rw [hf6] at R6
  obtain ⟨u7, j7, B7, R7⟩ := r_kind (N := N) (kk := 7) hIA hB (by omega) (h_7 hIA hB (by omega)) (fun σ16 => lt ((7 : Int32) + 1) (fun v17 => f_X8_check_16 N KK (M + 2) v17 σ16)) B6 R6 (by rw [hf7]; simp; omega)
  rw [hf7] at R7
  obtain ⟨u8, j8, B8, R8⟩ := r_kind8 (N := N) hIA hB (by omega) K8 B7 R7 (by rw [hf8]; simp; omega)
  rw [hf8] at R8
  obtain ⟨u9, j9, B9, R9⟩ := r_kind9 (N := N) hIA hB hB7 (by omega) K9 hU hUl B8 R8 (by rw [hf9]; simp; omega)
  rw [hf9] at R9
  obtain ⟨u10, j10, B10, R10⟩ := r_order (N := N) (m := gl ML) (mp := gl MP) (nM := ML.length) hIA hB (by omega) (by omega) (by rw [hρi 17 (by decide), b2, ← hML]) (fun j hj => by
    have := wrL_at (f := ss t14 35 0 0 47) (a := 0) hj
    rw [Nat.zero_add] at this
    rw [hρc 47 (by decide), b3, ← hML]; exact this) (fun j hj => by
    have := wrL_at (f := ss t14 35 0 0 48) (a := 0) (L := MP) (i := j) (by omega)
    rw [Nat.zero_add] at this
    rw [hρc 48 (by decide), b4, ← hMP]; exact this) hMr B9 R9 (by rw [hf10]; simp; omega)
  rw [hf10, ← hFF] at R10
  refine ⟨u10, ?_, R10, fun c hc c1 c2 c3 c4 c5 c6 c7 => by rw [B10.1 c hc, hρc c c1, hb7 c c1 c2 c3 c4 c5 c6 c7], fun i i0 i1 i2 i3 => by rw [B10.2 i i3, hB.2 i i0 i1 i2 i3]⟩
  · have e0 : ∀ n, n = M + 9 → f_X8_check_16 N KK n 1 ρ = KK u7 := by
      intro n hn
      rw [hn, f_X8_check_16, if_neg (by decide), if_neg (by decide), j1, lt_eq, show (1 : Int32) + 1 = 2 from rfl, f_X8_check_16, if_neg (by decide), if_neg (by decide), j2, lt_eq, show (2 : Int32) + 1 = 3 from rfl, f_X8_check_16, if_neg (by decide), if_pos rfl, j3, cI_eq, lt_eq, show (3 : Int32) + 1 = 4 from rfl, f_X8_check_16, if_neg (by decide), if_neg (by decide), j4, lt_eq, show (4 : Int32) + 1 = 5 from rfl, f_X8_check_16, if_neg (by decide), if_neg (by decide), j5, lt_eq, show (5 : Int32) + 1 = 6 from rfl, f_X8_check_16, if_neg (by decide), if_neg (by decide), j6, lt_eq, show (6 : Int32) + 1 = 7 from rfl, f_X8_check_16, if_neg (by decide), if_neg (by decide), j7, lt_eq, show (7 : Int32) + 1 = 8 from rfl, f_X8_check_16, if_pos (by decide)]
    rw [f_X8_check, st_eq, b1, cI_eq, st_eq, ← hρ, ← hK9, ← hK8, ← hKK, e0 N hM, hKK]
    show f_X8_check_74 N K8 N 0 u7 = _
    rw [j8, hK8]
    show f_X8_check_108 N K9 N 0 u8 = _
    rw [j9, hK9]
    show cI (f_X8_addOrder N u9) _ = _
    rw [j10, cI_eq, lt_eq, R10.1]
theorem op_check {σ : Sg} (hI : Inv σ) {N : Nat} (hN9 : 20000 ≤ N) : ∃ (r : Int32) (σ1 σ2 : Sg), f_X7_check N σ = some (r, σ1) ∧ f_X8_check N σ1 = some (r, σ2) ∧ Inv σ2 := by
  obtain ⟨ne, nk, np, nt, ns, nf, kp, kn, sh, hIA⟩ := hI
  obtain ⟨L, H, hL, hL2, hpl, hHl, hHm, cf, ch, rg⟩ := walk_ex hIA hN9
  obtain ⟨ix, hTr⟩ := Tr_ex hIA.2.2.2.2.1
  have h60 := ne60 hIA
  obtain ⟨t6, hc1, A6, F5⟩ := chk_c1 hIA hTr hN9 hHl hHm (fun x hx => lvN_eq (hIA.2.2.1.2.2.1 x hx)) ch
  have q1 := fl_le (xk 1) (Q1 σ) ne 0
  have q2 := fl_le (xk 2) (Q2 σ) ne 0
  have q3 := fl_le (x3 (lvN (σ 37)) H) (Q3 (lvN (σ 37)) H) H.length 0
  have q4 := fl_le (xk 4) (Q4 σ kp ix) ne 0
  have q5 := fl_le (xk 5) (Q5 σ kp kn nk) ne 0
  obtain ⟨t14, hc2, A14, F10⟩ := chk_c2 hIA hTr hN9 hL hL2 hpl hHl hHm rfl rfl rfl rfl cf A6 F5 (by simp only [List.length_append, List.length_nil]; omega)
  obtain ⟨u10, href, R10, hcc, h35⟩ := chk_r hIA hTr hN9 hL hL2 hpl hHl hHm rfl rfl rfl rfl rg A14
  have hFFl := chk_len hIA hTr hN9 hL hL2 hpl hHl hHm rfl rfl rfl rfl
  refine ⟨_, t14, u10, Eq.trans hc1 hc2, href, ?_⟩
  refine ⟨ne, nk, np, nt, ns, _, kp, kn, sh, IA_ag hIA (fun c v1 v2 => ?_) ?_ ⟨h35 1 (by decide) (by decide) (by decide) (by decide), h35 8 (by decide) (by decide) (by decide) (by decide), h35 11 (by decide) (by decide) (by decide) (by decide), h35 12 (by decide) (by decide) (by decide) (by decide), h35 15 (by decide) (by decide) (by decide) (by decide)⟩ ?_ R10.1 hFFl ?_⟩
  · have hw : Wr c = false := by unfold Wr; unfold Vt at v1; unfold Ft at v2; simp at v1 v2 ⊢; omega
    have hw2 : Wc c = false := by unfold Wc; unfold Vt at v1; unfold Ft at v2; simp at v1 v2 ⊢; omega
    unfold Vt at v1
    simp at v1
    rw [hcc c hw (by omega) (by omega) (by omega) (by omega) (by omega) (by omega) (by omega)]
    exact A14.1 c hw2
  · rw [hcc 0 rfl (by decide) (by decide) (by decide) (by decide) (by decide) (by decide) (by decide)]; exact A14.2
  · rw [hcc 22 rfl (by decide) (by decide) (by decide) (by decide) (by decide) (by decide) (by decide)]; exact F10.1
  · intro i hi
    rw [hcc 23 rfl (by decide) (by decide) (by decide) (by decide) (by decide) (by decide) (by decide), hcc 24 rfl (by decide) (by decide) (by decide) (by decide) (by decide) (by decide) (by decide), hcc 25 rfl (by decide) (by decide) (by decide) (by decide) (by decide) (by decide) (by decide)]
    obtain ⟨x1, x2, x3⟩ := F10.2 i hi
    obtain ⟨y1, y2, y3⟩ := R10.2 i hi
    exact ⟨by rw [x1, y1]; rfl, by rw [x2, y2]; rfl, by rw [x3, y3]; rfl⟩
