def Q5 (σ : Sg) (kp kn : Nat → Nat) (nk e : Nat) : Bool := sS σ e == 6 && TU σ kp kn nk e
section KR
variable {σ ρ : Sg} {ne nk np nt ns nf : Nat} {kp kn sh ix : Nat → Nat} {N : Nat}
theorem c_kind5 (hI : IA σ ne nk np nt ns nf kp kn sh) (hTr : Tr kp kn ix nk ne) (hN9 : 1000 ≤ N) (K : Sg → Option (Int32 × Sg)) {F : List (Int32 × Int32 × Int32)} {τ : Sg} (hA : AgC σ τ) (hF : FC τ F) (hl : F.length + ne ≤ 760) : ∃ τ', f_X7_findUnevenTables_2 N K N (nI 0) τ = K τ' ∧ AgC σ τ' ∧ True ∧ FC τ' (F ++ flt (xk 5) (Q5 σ kp kn nk) ne 0) := by
  have h60 := ne60 hI
  refine fl_class (N := N) (ne := ne) (lo := 0) (x := xk 5) (P := Q5 σ kp kn nk) (J := fun _ => True) (fun n x τ => f_X7_findUnevenTables_2 N K n x τ) K (fun _ _ _ _ => trivial) (fun n τ hA _ => ?_) (fun n e τ hA _ _ he => ?_) ne 0 N F τ (by omega) (by omega) hA trivial hF (by omega) (by omega)
  · show f_X7_findUnevenTables_2 N K (n + 1) (nI ne) τ = K τ
    rw [f_X7_findUnevenTables_2, lt_eq, ag_ne hI hA, if_pos (nI_le (Nat.le_refl _) (by omega))]
  · by_cases g : sS σ e = 6
    · obtain ⟨τ1, a1, a2⟩ := c_uneven hI hTr hN9 hA he
      refine ⟨τ1, ag_20 hA a2, a2, ?_⟩
      show f_X7_findUnevenTables_2 N K (n + 1) (nI e) τ = _
      rw [f_X7_findUnevenTables_2, lt_eq, ag_ne hI hA, if_neg (nI_ge he (by omega)), ag_std hI (by omega) hA he, cI_eq, if_pos g, a1, cI_eq]
      cases hT : TU σ kp kn nk e with
      | true =>
        rw [if_neg (by decide), if_pos (by simp [Q5, g, hT])]
        simp only [lt_eq, nI_1, xk]
      | false => rw [if_pos (by decide), if_neg (by simp [Q5, hT]), lt_eq, nI_1]
    · refine ⟨τ, hA, fun c _ _ => rfl, ?_⟩
      show f_X7_findUnevenTables_2 N K (n + 1) (nI e) τ = _
      rw [f_X7_findUnevenTables_2, lt_eq, ag_ne hI hA, if_neg (nI_ge he (by omega)), ag_std hI (by omega) hA he, cI_eq, if_neg g, if_neg (by simp [Q5, g]), lt_eq, nI_1]
theorem r_kind (hI : IA σ ne nk np nt ns nf kp kn sh) (hB : RB σ ρ) (hN9 : 1000 ≤ N) {kk : Int32} {Q : Nat → Bool} (hh : ∀ τ e, AgR ρ τ → e < ne → ∃ τ1, f_X8_hasFault N (nI e) kk τ = some (if Q e = true then 1 else 0, τ1) ∧ ∀ c, c ≠ 56 → τ1 c = τ c) (K : Sg → Option (Int32 × Sg)) {F : List (Int32 × Int32 × Int32)} {τ : Sg} (hA : AgR ρ τ) (hF : FR τ F) (hl : F.length + (flt (xk kk) Q ne 0).length ≤ 700) : ∃ τ', f_X8_check_36 N kk K N 0 τ = K τ' ∧ AgR ρ τ' ∧ FR τ' (F ++ flt (xk kk) Q ne 0) := by
  have h60 := ne60 hI
  refine fl_ref (N := N) (ne := ne) (x := xk kk) (P := Q) (fun n x τ => f_X8_check_36 N kk K n x τ) K (fun n τ hA => ?_) (fun n e τ hA he => ?_) ne 0 N F τ (by omega) hA hF hl (by omega)
  · show f_X8_check_36 N kk K (n + 1) (nI ne) τ = K τ
    rw [f_X8_check_36, lt_eq, (rb_K hI hB hA).2.2.2, if_pos (nI_le (Nat.le_refl _) (by omega))]
  · obtain ⟨τ1, a1, a2⟩ := hh τ e hA he
    refine ⟨τ1, agR_56 hA a2, a2, ?_⟩
    show f_X8_check_36 N kk K (n + 1) (nI e) τ = _
    rw [f_X8_check_36, lt_eq, (rb_K hI hB hA).2.2.2, if_neg (nI_ge he (by omega)), a1, cI_eq]
    by_cases g : Q e = true
    · rw [if_pos g, if_neg (by decide), if_pos g]
      simp only [lt_eq, nI_1, xk]
    · rw [if_neg g, if_pos rfl, if_neg g, lt_eq, nI_1]
theorem h_1 (hI : IA σ ne nk np nt ns nf kp kn sh) (hB : RB σ ρ) (hN9 : 1000 ≤ N) (τ : Sg) (e : Nat) (hA : AgR ρ τ) (he : e < ne) : ∃ τ1, f_X8_hasFault N (nI e) 1 τ = some (if Q1 σ e = true then 1 else 0, τ1) ∧ ∀ c, c ≠ 56 → τ1 c = τ c := by
  have h60 := ne60 hI
  have h41 : τ 41 = σ 41 := rb_c hB hA (by decide) (by decide)
  have h36 : τ 36 = σ 36 := rb_c hB hA (by decide) (by decide)
  refine ⟨τ, ?_, fun c _ => rfl⟩
  rw [f_X8_hasFault, if_pos rfl, rdA_v e (σ 36 e) rfl (by omega) (by decide) (by rw [h36]), x8_std (by omega) (by rw [h41]; exact hI.2.2.2.1) (hI.2.2.1.2.1 e (by omega)).1, cI_eq, h41]
  by_cases g : sS σ e = -1
  · rw [if_pos (show std (σ 41) (σ 36 e) = -1 from g), if_pos (by simp [Q1, g])]
  · rw [if_neg (show ¬ std (σ 41) (σ 36 e) = -1 from g), if_neg (by simp [Q1, g])]
theorem h_2 (hI : IA σ ne nk np nt ns nf kp kn sh) (hB : RB σ ρ) (hN9 : 1000 ≤ N) (τ : Sg) (e : Nat) (hA : AgR ρ τ) (he : e < ne) : ∃ τ1, f_X8_hasFault N (nI e) 2 τ = some (if Q2 σ e = true then 1 else 0, τ1) ∧ ∀ c, c ≠ 56 → τ1 c = τ c := by
  have h60 := ne60 hI
  have h37 : τ 37 = σ 37 := rb_c hB hA (by decide) (by decide)
  refine ⟨τ, ?_, fun c _ => rfl⟩
  rw [f_X8_hasFault, if_neg (by decide), if_pos rfl, r_is hI hB (by omega) hA (by omega), cI_eq]
  by_cases g : sS σ e = 2
  · rw [if_pos g, if_neg (by decide), rdA_v e (σ 37 e) rfl (by omega) (by decide) (by rw [h37])]
    by_cases g2 : σ 37 e = 0
    · rw [if_pos g2, if_pos (by simp [Q2, g, g2])]
    · rw [if_neg g2, if_neg (by simp [Q2, g2])]
  · rw [if_neg g, if_pos rfl, if_neg (by simp [Q2, g])]
theorem h_4 (hI : IA σ ne nk np nt ns nf kp kn sh) (hTr : Tr kp kn ix nk ne) (hB : RB σ ρ) (hN9 : 1000 ≤ N) (τ : Sg) (e : Nat) (hA : AgR ρ τ) (he : e < ne) : ∃ τ1, f_X8_hasFault N (nI e) 4 τ = some (if Q4 σ kp ix e = true then 1 else 0, τ1) ∧ ∀ c, c ≠ 56 → τ1 c = τ c := by
  refine ⟨τ, ?_, fun c _ => rfl⟩
  rw [f_X8_hasFault, if_neg (by decide), if_neg (by decide), if_pos rfl, r_placed hI hTr hB (by omega) hA he, cI_eq]
  by_cases g : Q4 σ kp ix e = true
  · rw [if_pos g, if_pos rfl, if_pos g]
  · rw [if_neg g, if_neg (by decide), if_neg g]
theorem h_5 (hI : IA σ ne nk np nt ns nf kp kn sh) (hTr : Tr kp kn ix nk ne) (hB : RB σ ρ) (hN9 : 1000 ≤ N) (τ : Sg) (e : Nat) (hA : AgR ρ τ) (he : e < ne) : ∃ τ1, f_X8_hasFault N (nI e) 5 τ = some (if Q5 σ kp kn nk e = true then 1 else 0, τ1) ∧ ∀ c, c ≠ 56 → τ1 c = τ c := by
  have h60 := ne60 hI
  by_cases g : sS σ e = 6
  · obtain ⟨τ1, a1, a2⟩ := r_uneven hI hTr hB hN9 hA he
    refine ⟨τ1, ?_, a2⟩
    rw [f_X8_hasFault, if_neg (by decide), if_neg (by decide), if_neg (by decide), if_pos rfl, r_is hI hB (by omega) hA (by omega), cI_eq, if_pos g, if_neg (by decide), a1, cI_eq]
    cases hT : TU σ kp kn nk e with
    | true => rw [if_neg (by decide), if_pos (by simp [Q5, g, hT])]
    | false => rw [if_pos (by decide), if_neg (by simp [Q5, hT])]
  · refine ⟨τ, ?_, fun c _ => rfl⟩
    rw [f_X8_hasFault, if_neg (by decide), if_neg (by decide), if_neg (by decide), if_pos rfl, r_is hI hB (by omega) hA (by omega), cI_eq, if_neg g, if_pos rfl, if_neg (by simp [Q5, g])]
theorem h_6 (hI : IA σ ne nk np nt ns nf kp kn sh) (hB : RB σ ρ) (hN9 : 1000 ≤ N) (τ : Sg) (e : Nat) (hA : AgR ρ τ) (he : e < ne) : ∃ τ1, f_X8_hasFault N (nI e) 6 τ = some (if Q6 σ e = true then 1 else 0, τ1) ∧ ∀ c, c ≠ 56 → τ1 c = τ c := by
  have h60 := ne60 hI
  have h38 : τ 38 = σ 38 := rb_c hB hA (by decide) (by decide)
  refine ⟨τ, ?_, fun c _ => rfl⟩
  rw [f_X8_hasFault, if_neg (by decide), if_neg (by decide), if_neg (by decide), if_neg (by decide), if_pos rfl, r_is hI hB (by omega) hA (by omega), cI_eq]
  by_cases g : sS σ e = 10
  · rw [if_pos g, if_neg (by decide), rdA_v e (σ 38 e) rfl (by omega) (by decide) (by rw [h38])]
    by_cases g2 : σ 38 e = 0
    · rw [if_pos g2, if_pos (by simp [Q6, g, g2])]
    · rw [if_neg g2, if_neg (by simp [Q6, g2])]
  · rw [if_neg g, if_pos rfl, if_neg (by simp [Q6, g])]
theorem h_7 (hI : IA σ ne nk np nt ns nf kp kn sh) (hB : RB σ ρ) (hN9 : 1000 ≤ N) (τ : Sg) (e : Nat) (hA : AgR ρ τ) (he : e < ne) : ∃ τ1, f_X8_hasFault N (nI e) 7 τ = some (if Q7 σ kp nk e = true then 1 else 0, τ1) ∧ ∀ c, c ≠ 56 → τ1 c = τ c := by
  have h60 := ne60 hI
  refine ⟨τ, ?_, fun c _ => rfl⟩
  rw [f_X8_hasFault, if_neg (by decide), if_neg (by decide), if_neg (by decide), if_neg (by decide), if_neg (by decide)]
  by_cases e0 : e = 0
  · rw [if_pos (by rw [e0]; decide), if_neg (by simp [Q7, e0])]
  · obtain ⟨b1, b2, b3, b4⟩ := rb_K hI hB hA
    rw [if_neg (nI_nle (by omega) (by omega)), r_is hI hB (by omega) hA (by omega), cI_eq]
    by_cases g : sS σ e = 10
    · rw [if_pos g, if_neg (by decide), if_neg (by simp [Q7, g])]
    · have hnx := x8_nextKid (N := N) (by omega) b1 b3 h60 b2 he (j := 0) (by omega)
      rw [nI_0] at hnx
      have hle := nxt_le (kp := kp) (nk := nk) (e := e) (nk - 0) 0 (by omega) rfl
      rw [if_neg g, if_pos rfl, hnx, cI_eq, lt_eq, b1]
      by_cases gn : nxt kp nk e 0 < nk
      · rw [if_neg (by rw [eqN (by omega) (by omega)]; omega), if_neg (by simp [Q7, gn])]
      · have : nxt kp nk e 0 = nk := by unfold nxt at gn ⊢; omega
        rw [if_pos (by rw [this]), if_pos (by simp [Q7, gn, g, e0])]
def bfN (lv : Nat → Nat) (H : List Nat) (i : Nat) : Nat := if i = 0 then 0 else lv (gl H (i - 1))
def bfI (lv : Nat → Nat) (H : List Nat) (x : Int32) : Int32 := nI (bfN lv H x.toNatClampNeg)
def x3 (lv : Nat → Nat) (H : List Nat) (i : Nat) : Int32 × Int32 × Int32 := (3, nI (gl H i), nI (lv (gl H i)))
def Q3 (lv : Nat → Nat) (H : List Nat) (i : Nat) : Bool := decide (bfN lv H i + 1 < lv (gl H i))
theorem bfI_eq {lv : Nat → Nat} {H : List Nat} {i : Nat} (h : i < 2 ^ 31) : bfI lv H (nI i) = nI (bfN lv H i) := by unfold bfI; rw [nI_clamp h]
theorem bfI_s {lv : Nat → Nat} {H : List Nat} {i : Nat} (h : i + 1 < 2 ^ 31) : bfI lv H (nI (i + 1)) = nI (lv (gl H i)) := by
  rw [bfI_eq h, bfN, if_neg (by omega), Nat.add_sub_cancel]
theorem c_kind3 {lv : Nat → Nat} {H : List Nat} (hlv : ∀ x, x ∈ H → lv x ≤ 6) (hH : H.length ≤ 60) (hN9 : 1000 ≤ N) (K : Sg → Option (Int32 × Sg)) {F : List (Int32 × Int32 × Int32)} {τ : Sg} (hA : AgC σ τ) (hJ : HC τ lv (gl H) H.length) (hF : FC τ F) (hl : F.length + H.length ≤ 760) : ∃ τ', f_X7_findSkippedLevels_8 N K N 0 0 τ = K τ' ∧ AgC σ τ' ∧ HC τ' lv (gl H) H.length ∧ FC τ' (F ++ flt (x3 lv H) (Q3 lv H) H.length 0) := by
  have hb : ∀ i, i ≤ H.length → bfN lv H i ≤ 6 := by
    intro i hi
    unfold bfN
    by_cases g : i = 0
    · rw [if_pos g]; omega
    · rw [if_neg g]; exact hlv _ (gl_mem (by omega))
  have := fl_class (N := N) (σ := σ) (ne := H.length) (lo := 0) (x := x3 lv H) (P := Q3 lv H) (J := fun τ => HC τ lv (gl H) H.length) (fun n x τ => f_X7_findSkippedLevels_8 N K n (bfI lv H x) x τ) K (fun τ τ' hj hc => ?_) (fun n τ hA hj => ?_) (fun n e τ hA hj _ he => ⟨τ, hA, fun c _ _ => rfl, ?_⟩) H.length 0 N F τ (by omega) (by omega) hA hJ hF (by omega) (by omega)
  · exact this
  · show HC τ' lv (gl H) H.length
    unfold HC
    rw [hc 16 (by decide) (by decide) (by decide) (by decide) (by decide) (by decide), hc 17 (by decide) (by decide) (by decide) (by decide) (by decide) (by decide), hc 18 (by decide) (by decide) (by decide) (by decide) (by decide) (by decide), hc 19 (by decide) (by decide) (by decide) (by decide) (by decide) (by decide)]
    exact hj
  · show f_X7_findSkippedLevels_8 N K (n + 1) (bfI lv H (nI H.length)) (nI H.length) τ = K τ
    rw [f_X7_findSkippedLevels_8, lt_eq, hj.1, if_pos (nI_le (Nat.le_refl _) (by omega))]
  · show f_X7_findSkippedLevels_8 N K (n + 1) (bfI lv H (nI e)) (nI e) τ = _
    have h1 := hlv _ (gl_mem he)
    have h2 := hb e (by omega)
    rw [f_X7_findSkippedLevels_8, lt_eq, hj.1, if_neg (nI_ge he (by omega)), rdA_v e (nI (lv (gl H e))) rfl (by omega) (by decide) (hj.2 e he).2.1, bfI_eq (by omega), nI_1]
    by_cases g : bfN lv H e + 1 < lv (gl H e)
    · rw [if_neg (nI_ge g (by omega)), if_pos (by simp [Q3, g]), rdA_v e (nI (gl H e)) rfl (by omega) (by decide) (hj.2 e he).1]
      simp only [lt_eq, nI_1, x3, bfI_s (show e + 1 < 2 ^ 31 by omega)]
    · rw [if_pos (nI_le (by omega) (by omega)), if_neg (by simp [Q3]; omega), lt_eq, nI_1, bfI_s (by omega)]
theorem r_kind3 {lv : Nat → Nat} {H : List Nat} (hlv : ∀ x, x < 60 → lv x ≤ 6) (hHm : ∀ x, x ∈ H → x < 60) (hH : H.length ≤ 60) (hN9 : 1000 ≤ N) (hR : HR ρ lv (gl H) H.length) (h37 : ∀ x, x < 60 → ρ 37 x = nI (lv x)) {F : List (Int32 × Int32 × Int32)} {τ : Sg} (hA : AgR ρ τ) (hF : FR τ F) (hl : F.length + (flt (x3 lv H) (Q3 lv H) H.length 0).length ≤ 700) : ∃ τ', f_X8_addJumps N τ = some (0, τ') ∧ AgR ρ τ' ∧ FR τ' (F ++ flt (x3 lv H) (Q3 lv H) H.length 0) := by
  have hb : ∀ i, i ≤ H.length → bfN lv H i ≤ 6 := by
    intro i hi
    unfold bfN
    by_cases g : i = 0
    · rw [if_pos g]; omega
    · rw [if_neg g]; exact hlv _ (hHm _ (gl_mem (by omega)))
  have := fl_ref (N := N) (σ := ρ) (ne := H.length) (x := x3 lv H) (P := Q3 lv H) (fun n x τ => f_X8_addJumps_4 N (fun σ11 => some (0, σ11)) n (bfI lv H x) x τ) (fun σ11 => some (0, σ11)) (fun n τ hA => ?_) (fun n e τ hA he => ⟨τ, hA, fun c _ => rfl, ?_⟩) H.length 0 N F τ (by omega) hA hF hl (by omega)
  · exact this
  · show f_X8_addJumps_4 N _ (n + 1) (bfI lv H (nI H.length)) (nI H.length) τ = _
    rw [f_X8_addJumps_4, lt_eq, hA.2 22 (by decide), hR.1, if_pos (nI_le (Nat.le_refl _) (by omega))]
  · show f_X8_addJumps_4 N _ (n + 1) (bfI lv H (nI e)) (nI e) τ = _
    have hm := hHm _ (gl_mem he)
    have h1 := hlv _ hm
    have h2 := hb e (by omega)
    have h51 : τ 51 e = nI (gl H e) := by rw [hA.1 51 rfl]; exact (hR.2 e he).1
    rw [f_X8_addJumps_4, lt_eq, hA.2 22 (by decide), hR.1, if_neg (nI_ge he (by omega)), rdA_v e (nI (gl H e)) rfl (by omega) (by decide) h51, rdA_v (gl H e) (nI (lv (gl H e))) rfl hm (by decide) (by rw [hA.1 37 rfl]; exact h37 _ hm), bfI_eq (by omega), nI_1]
    by_cases g : bfN lv H e + 1 < lv (gl H e)
    · rw [if_neg (nI_ge g (by omega)), if_pos (by simp [Q3, g]), rdA_v e (nI (gl H e)) rfl (by omega) (by decide) h51]
      simp only [lt_eq, nI_1, x3, bfI_s (show e + 1 < 2 ^ 31 by omega)]
    · rw [if_pos (nI_le (by omega) (by omega)), if_neg (by simp [Q3]; omega), lt_eq, nI_1, bfI_s (by omega)]
end KR
