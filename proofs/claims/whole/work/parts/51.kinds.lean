def sS (σ : Sg) (e : Nat) : Int32 := std (σ 41) (σ 36 e)
def Mis (s t : Int32) : Prop := ((s = 5 ∧ t ≠ 4) ∨ (s = 7 ∧ t ≠ 6) ∨ ((s = 8 ∨ s = 9) ∧ t ≠ 7)) ∨ ((t = 4 ∧ s ≠ 5 ∧ s ≠ 12) ∨ (t = 6 ∧ s ≠ 7 ∧ s ≠ 12) ∨ (t = 7 ∧ s ≠ 8 ∧ s ≠ 9 ∧ s ≠ 12))
def misB (s t : Int32) : Bool := ((s == 5 && t != 4) || (s == 7 && t != 6) || ((s == 8 || s == 9) && t != 7)) || ((t == 4 && s != 5 && s != 12) || (t == 6 && s != 7 && s != 12) || (t == 7 && s != 8 && s != 9 && s != 12))
def Q1 (σ : Sg) (e : Nat) : Bool := sS σ e == -1
def Q2 (σ : Sg) (e : Nat) : Bool := sS σ e == 2 && σ 37 e == 0
def Q4 (σ : Sg) (kp ix : Nat → Nat) (e : Nat) : Bool := e != 0 && misB (sS σ e) (sS σ (kp (ix e)))
def Q6 (σ : Sg) (e : Nat) : Bool := sS σ e == 10 && σ 38 e == 0
def Q7 (σ : Sg) (kp : Nat → Nat) (nk e : Nat) : Bool := e != 0 && sS σ e != 10 && !(decide (nxt kp nk e 0 < nk))
def xk (k : Int32) (e : Nat) : Int32 × Int32 × Int32 := (k, nI e, 0)
section KD
variable {σ : Sg} {ne nk np nt ns nf : Nat} {kp kn sh ix : Nat → Nat} {N : Nat}
theorem ag_std (hI : IA σ ne nk np nt ns nf kp kn sh) (hN9 : 200 ≤ N) {τ : Sg} (hA : AgC σ τ) {e : Nat} (he : e < ne) : f_X6_standardOf N (nI e) τ = some (sS σ e, τ) := by
  obtain ⟨⟨n1, n2, n3, n4, n5, n6, n7, n8, n9, n10, n11, n12, n13, n14, n15, n16, n17⟩, hE, hV, hM, hK, hT, hP, hF⟩ := hI
  have h2 : τ 2 = σ 41 := by rw [hA.1 2 rfl, hE.2.2.2.2.2.1]
  have h4 : τ 4 = σ 36 := by rw [hA.1 4 rfl, hE.1]
  rw [x6_std (by omega) (by rw [hA.1 3 rfl]; exact n1) n12 he (by rw [h2]; exact hM) (by rw [h4]; exact (hV.2.1 e (by omega)).1), h2, h4]
  rfl
theorem ag_ne (hI : IA σ ne nk np nt ns nf kp kn sh) {τ : Sg} (hA : AgC σ τ) : τ 3 6 = nI ne := by rw [hA.1 3 rfl]; exact hI.1.1
theorem ne60 (hI : IA σ ne nk np nt ns nf kp kn sh) : ne ≤ 60 := hI.1.2.2.2.2.2.2.2.2.2.2.2.1
theorem c_kind1 (hI : IA σ ne nk np nt ns nf kp kn sh) (hN9 : 200 ≤ N) (K : Sg → Option (Int32 × Sg)) {F : List (Int32 × Int32 × Int32)} {τ : Sg} (hA : AgC σ τ) (hF : FC τ F) (hl : F.length + ne ≤ 760) : ∃ τ', f_X7_findElementsWithoutStandard_2 N K N (nI 0) τ = K τ' ∧ AgC σ τ' ∧ True ∧ FC τ' (F ++ flt (xk 1) (Q1 σ) ne 0) := by
  have h60 := ne60 hI
  refine fl_class (N := N) (ne := ne) (lo := 0) (x := xk 1) (P := Q1 σ) (J := fun _ => True) (fun n x τ => f_X7_findElementsWithoutStandard_2 N K n x τ) K (fun _ _ _ _ => trivial) (fun n τ hA _ => ?_) (fun n e τ hA _ _ he => ⟨τ, hA, fun c _ _ => rfl, ?_⟩) ne 0 N F τ (by omega) (by omega) hA trivial hF (by omega) (by omega)
  · show f_X7_findElementsWithoutStandard_2 N K (n + 1) (nI ne) τ = K τ
    rw [f_X7_findElementsWithoutStandard_2, lt_eq, ag_ne hI hA, if_pos (nI_le (Nat.le_refl _) (by omega))]
  · show f_X7_findElementsWithoutStandard_2 N K (n + 1) (nI e) τ = _
    rw [f_X7_findElementsWithoutStandard_2, lt_eq, ag_ne hI hA, if_neg (nI_ge he (by omega)), ag_std hI hN9 hA he, cI_eq]
    by_cases g : sS σ e = -1
    · rw [if_pos g, if_pos (by simp [Q1, g])]
      simp only [lt_eq, nI_1, xk]
    · rw [if_neg g, if_neg (by simp [Q1, g]), lt_eq, nI_1]
theorem c_kind2 (hI : IA σ ne nk np nt ns nf kp kn sh) (hN9 : 200 ≤ N) (K : Sg → Option (Int32 × Sg)) {F : List (Int32 × Int32 × Int32)} {τ : Sg} (hA : AgC σ τ) (hF : FC τ F) (hl : F.length + ne ≤ 760) : ∃ τ', f_X7_findHeadingsWithoutLevel_2 N K N (nI 0) τ = K τ' ∧ AgC σ τ' ∧ True ∧ FC τ' (F ++ flt (xk 2) (Q2 σ) ne 0) := by
  have h60 := ne60 hI
  refine fl_class (N := N) (ne := ne) (lo := 0) (x := xk 2) (P := Q2 σ) (J := fun _ => True) (fun n x τ => f_X7_findHeadingsWithoutLevel_2 N K n x τ) K (fun _ _ _ _ => trivial) (fun n τ hA _ => ?_) (fun n e τ hA _ _ he => ⟨τ, hA, fun c _ _ => rfl, ?_⟩) ne 0 N F τ (by omega) (by omega) hA trivial hF (by omega) (by omega)
  · show f_X7_findHeadingsWithoutLevel_2 N K (n + 1) (nI ne) τ = K τ
    rw [f_X7_findHeadingsWithoutLevel_2, lt_eq, ag_ne hI hA, if_pos (nI_le (Nat.le_refl _) (by omega))]
  · show f_X7_findHeadingsWithoutLevel_2 N K (n + 1) (nI e) τ = _
    have h26 : τ 26 e = σ 37 e := by rw [hA.1 26 rfl, hI.2.1.2.1]
    rw [f_X7_findHeadingsWithoutLevel_2, lt_eq, ag_ne hI hA, if_neg (nI_ge he (by omega)), ag_std hI hN9 hA he, cI_eq]
    by_cases g : sS σ e = 2
    · rw [if_pos g, rdA_v e (σ 37 e) rfl (by omega) (by decide) h26]
      by_cases g2 : σ 37 e = 0
      · rw [if_pos g2, if_pos (by simp [Q2, g, g2])]
        simp only [lt_eq, nI_1, xk]
      · rw [if_neg g2, if_neg (by simp [Q2, g, g2]), lt_eq, nI_1]
    · rw [if_neg g, if_neg (by simp [Q2, g]), lt_eq, nI_1]
theorem c_kind6 (hI : IA σ ne nk np nt ns nf kp kn sh) (hN9 : 200 ≤ N) (K : Sg → Option (Int32 × Sg)) {F : List (Int32 × Int32 × Int32)} {τ : Sg} (hA : AgC σ τ) (hF : FC τ F) (hl : F.length + ne ≤ 760) : ∃ τ', f_X7_findFiguresWithoutWords_2 N K N (nI 0) τ = K τ' ∧ AgC σ τ' ∧ True ∧ FC τ' (F ++ flt (xk 6) (Q6 σ) ne 0) := by
  have h60 := ne60 hI
  refine fl_class (N := N) (ne := ne) (lo := 0) (x := xk 6) (P := Q6 σ) (J := fun _ => True) (fun n x τ => f_X7_findFiguresWithoutWords_2 N K n x τ) K (fun _ _ _ _ => trivial) (fun n τ hA _ => ?_) (fun n e τ hA _ _ he => ⟨τ, hA, fun c _ _ => rfl, ?_⟩) ne 0 N F τ (by omega) (by omega) hA trivial hF (by omega) (by omega)
  · show f_X7_findFiguresWithoutWords_2 N K (n + 1) (nI ne) τ = K τ
    rw [f_X7_findFiguresWithoutWords_2, lt_eq, ag_ne hI hA, if_pos (nI_le (Nat.le_refl _) (by omega))]
  · show f_X7_findFiguresWithoutWords_2 N K (n + 1) (nI e) τ = _
    have h26 : τ 27 e = σ 38 e := by rw [hA.1 27 rfl, hI.2.1.2.2.1]
    rw [f_X7_findFiguresWithoutWords_2, lt_eq, ag_ne hI hA, if_neg (nI_ge he (by omega)), ag_std hI hN9 hA he, cI_eq]
    by_cases g : sS σ e = 10
    · rw [if_pos g, rdA_v e (σ 38 e) rfl (by omega) (by decide) h26]
      by_cases g2 : σ 38 e = 0
      · rw [if_pos g2, if_pos (by simp [Q6, g, g2])]
        simp only [lt_eq, nI_1, xk]
      · rw [if_neg g2, if_neg (by simp [Q6, g, g2]), lt_eq, nI_1]
    · rw [if_neg g, if_neg (by simp [Q6, g]), lt_eq, nI_1]
theorem mis_c (s t : Int32) (τ : Sg) : f_X7_isMisplaced N s t τ = some (if misB s t = true then 1 else 0, τ) := by
  unfold f_X7_isMisplaced f_X7_neededParent f_X7_isCell misB
  by_cases h5 : s = 5
  · subst h5
    by_cases h4 : t = 4
    · subst h4; rfl
    · simp [cI, h4]
  · by_cases h7 : s = 7
    · subst h7
      by_cases h4 : t = 6
      · subst h4; rfl
      · simp [cI, h4]
    · by_cases h8 : s = 8
      · subst h8
        by_cases h4 : t = 7
        · subst h4; rfl
        · simp [cI, h4]
      · by_cases h9 : s = 9
        · subst h9
          by_cases h4 : t = 7
          · subst h4; rfl
          · simp [cI, h4]
        · by_cases h12 : s = 12
          · subst h12
            by_cases a4 : t = 4
            · subst a4; rfl
            · by_cases a6 : t = 6
              · subst a6; rfl
              · by_cases a7 : t = 7
                · subst a7; rfl
                · simp [cI, a4, a6, a7]
          · by_cases a4 : t = 4
            · subst a4; simp [cI, h5, h7, h8, h9, h12]
            · by_cases a6 : t = 6
              · subst a6; simp [cI, h5, h7, h8, h9, h12]
              · by_cases a7 : t = 7
                · subst a7; simp [cI, h5, h7, h8, h9, h12]
                · simp [cI, h5, h7, h8, h9, h12, a4, a6, a7]
theorem c_kind4 (hI : IA σ ne nk np nt ns nf kp kn sh) (hTr : Tr kp kn ix nk ne) (hN9 : 200 ≤ N) (K : Sg → Option (Int32 × Sg)) {F : List (Int32 × Int32 × Int32)} {τ : Sg} (hA : AgC σ τ) (hF : FC τ F) (hl : F.length + ne ≤ 760) : ∃ τ', f_X7_findMisplaced_2 N K N (nI 1) τ = K τ' ∧ AgC σ τ' ∧ True ∧ FC τ' (F ++ flt (xk 4) (Q4 σ kp ix) ne 0) := by
  have h60 := ne60 hI
  have h1 : 1 ≤ ne := hI.1.2.2.2.2.2.2.2.2.2.2.1
  have e0 : flt (xk 4) (Q4 σ kp ix) ne 0 = flt (xk 4) (Q4 σ kp ix) (ne - 1) 1 := by
    obtain ⟨m, rfl⟩ : ∃ m, ne = m + 1 := ⟨ne - 1, by omega⟩
    rw [flt, if_neg (by simp [Q4])]
    rfl
  rw [e0]
  refine fl_class (N := N) (ne := ne) (lo := 1) (x := xk 4) (P := Q4 σ kp ix) (J := fun _ => True) (fun n x τ => f_X7_findMisplaced_2 N K n x τ) K (fun _ _ _ _ => trivial) (fun n τ hA _ => ?_) (fun n e τ hA _ hlo he => ⟨τ, hA, fun c _ _ => rfl, ?_⟩) (ne - 1) 1 N F τ (by omega) (by omega) hA trivial hF (by omega) (by omega)
  · show f_X7_findMisplaced_2 N K (n + 1) (nI ne) τ = K τ
    rw [f_X7_findMisplaced_2, lt_eq, ag_ne hI hA, if_pos (nI_le (Nat.le_refl _) (by omega))]
  · have he0 : e ≠ 0 := by omega
    obtain ⟨q1, q2, q3⟩ := Tr_pr hTr (show 1 ≤ e by omega) he h60
    have h7 : τ 7 e = nI (kp (ix e)) := by
      have := hI.2.2.2.2.2.1.2.2.1 (ix e) q1
      rw [q2, nd_e (by omega)] at this
      rw [hA.1 7 rfl]; exact this
    show f_X7_findMisplaced_2 N K (n + 1) (nI e) τ = _
    rw [f_X7_findMisplaced_2, lt_eq, ag_ne hI hA, if_neg (nI_ge he (by omega)), ag_std hI hN9 hA he, cI_eq, f_X6_parentOf, rdA_v e (nI (kp (ix e))) rfl (by omega) (by decide) h7, cI_eq, ag_std hI hN9 hA (show kp (ix e) < ne by omega), cI_eq, mis_c, cI_eq]
    by_cases g : misB (sS σ e) (sS σ (kp (ix e))) = true
    · rw [if_pos g, if_neg (by decide), if_pos (by simp [Q4, g, he0])]
      simp only [lt_eq, nI_1, xk]
    · rw [if_neg g, if_pos rfl, if_neg (by simp [Q4, g]), lt_eq, nI_1]
theorem c_kind7 (hI : IA σ ne nk np nt ns nf kp kn sh) (hTr : Tr kp kn ix nk ne) (hN9 : 200 ≤ N) (K : Sg → Option (Int32 × Sg)) {F : List (Int32 × Int32 × Int32)} {τ : Sg} (hA : AgC σ τ) (hF : FC τ F) (hl : F.length + ne ≤ 760) : ∃ τ', f_X7_findElementsWithoutKids_2 N K N (nI 1) τ = K τ' ∧ AgC σ τ' ∧ True ∧ FC τ' (F ++ flt (xk 7) (Q7 σ kp nk) ne 0) := by
  have h60 := ne60 hI
  have h1 : 1 ≤ ne := hI.1.2.2.2.2.2.2.2.2.2.2.1
  have e0 : flt (xk 7) (Q7 σ kp nk) ne 0 = flt (xk 7) (Q7 σ kp nk) (ne - 1) 1 := by
    obtain ⟨m, rfl⟩ : ∃ m, ne = m + 1 := ⟨ne - 1, by omega⟩
    rw [flt, if_neg (by simp [Q7])]
    rfl
  rw [e0]
  refine fl_class (N := N) (ne := ne) (lo := 1) (x := xk 7) (P := Q7 σ kp nk) (J := fun _ => True) (fun n x τ => f_X7_findElementsWithoutKids_2 N K n x τ) K (fun _ _ _ _ => trivial) (fun n τ hA _ => ?_) (fun n e τ hA _ hlo he => ⟨τ, hA, fun c _ _ => rfl, ?_⟩) (ne - 1) 1 N F τ (by omega) (by omega) hA trivial hF (by omega) (by omega)
  · show f_X7_findElementsWithoutKids_2 N K (n + 1) (nI ne) τ = K τ
    rw [f_X7_findElementsWithoutKids_2, lt_eq, ag_ne hI hA, if_pos (nI_le (Nat.le_refl _) (by omega))]
  · have he0 : e ≠ 0 := by omega
    have h5 : τ 5 e = lnk kp kn nk e 0 := by rw [hA.1 5 rfl]; exact hI.2.2.2.2.2.1.1 e (by omega)
    show f_X7_findElementsWithoutKids_2 N K (n + 1) (nI e) τ = _
    rw [f_X7_findElementsWithoutKids_2, lt_eq, ag_ne hI hA, if_neg (nI_ge he (by omega)), f_X6_hasKids, rdA_v e (lnk kp kn nk e 0) rfl (by omega) (by decide) h5]
    unfold lnk
    by_cases gn : nxt kp nk e 0 < nk
    · have hd := nd_n1 hTr h60 gn
      rw [if_pos gn, if_neg (m1_ne (by omega)), cI_eq, if_neg (by decide), if_neg (by simp [Q7, gn]), lt_eq, nI_1]
    · rw [if_neg gn, if_pos rfl, cI_eq, if_pos rfl, ag_std hI hN9 hA he, cI_eq]
      by_cases g : sS σ e = 10
      · rw [if_pos g, if_neg (by simp [Q7, g]), lt_eq, nI_1]
      · rw [if_neg g, if_pos (by simp [Q7, g, gn, he0])]
        simp only [lt_eq, nI_1, xk]
end KD
