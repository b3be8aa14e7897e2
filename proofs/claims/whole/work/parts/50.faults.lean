/-! ===== the faults ===== -/
def fg (F : List (Int32 × Int32 × Int32)) (i : Nat) : (Int32 × Int32 × Int32) := if h : i < F.length then F[i] else (0, 0, 0)
theorem fg_old {F : List (Int32 × Int32 × Int32)} {x : (Int32 × Int32 × Int32)} {i : Nat} (h : i < F.length) : fg (F ++ [x]) i = fg F i := by
  unfold fg
  rw [dif_pos h, dif_pos (by rw [List.length_append]; omega), List.getElem_append_left h]
theorem fg_new {F : List (Int32 × Int32 × Int32)} {x : (Int32 × Int32 × Int32)} : fg (F ++ [x]) F.length = x := by
  unfold fg
  rw [dif_pos (by rw [List.length_append]; simp)]
  simp
def FC (τ : Sg) (F : List (Int32 × Int32 × Int32)) : Prop := τ 22 3 = nI F.length ∧ ∀ i, i < F.length → τ 23 i = (fg F i).1 ∧ τ 24 i = (fg F i).2.1 ∧ τ 25 i = (fg F i).2.2
def FR (τ : Sg) (F : List (Int32 × Int32 × Int32)) : Prop := τ 35 25 = nI F.length ∧ ∀ i, i < F.length → τ 53 i = (fg F i).1 ∧ τ 54 i = (fg F i).2.1 ∧ τ 55 i = (fg F i).2.2
def Wc (c : Nat) : Bool := c == 0 || c == 9 || c == 10 || c == 11 || c == 16 || c == 17 || c == 18 || c == 19 || c == 20 || c == 21 || c == 22 || c == 23 || c == 24 || c == 25 || c == 32 || c == 33
def Wr (c : Nat) : Bool := c == 35 || c == 53 || c == 54 || c == 55 || c == 56
def AgC (σ τ : Sg) : Prop := (∀ c, Wc c = false → τ c = σ c) ∧ τ 0 13 = σ 0 13
def AgR (σ τ : Sg) : Prop := (∀ c, Wr c = false → τ c = σ c) ∧ ∀ i, i ≠ 25 → τ 35 i = σ 35 i
theorem x0_app {N : Nat} {σ τ : Sg} {F : List (Int32 × Int32 × Int32)} (hA : AgC σ τ) (hF : FC τ F) (hl : F.length < 760) (k e n : Int32) : ∃ τ', f_X0_append N k e n τ = some (0, τ') ∧ AgC σ τ' ∧ FC τ' (F ++ [(k, e, n)]) ∧ ∀ c, c ≠ 22 → c ≠ 23 → c ≠ 24 → c ≠ 25 → τ' c = τ c := by
  refine ⟨ss (ss (ss (ss τ 23 F.length k) 24 F.length e) 25 F.length n) 22 3 (nI (F.length + 1)), ?_, ⟨fun c hc => ?_, hA.2⟩, ⟨?_, fun i hi => ?_⟩, fun c c1 c2 c3 c4 => ?_⟩
  · rw [f_X0_append, lt_eq, hF.1, if_neg (by rw [show (760 : Int32) = nI 760 from rfl, leN (by decide) (by omega)]; omega), lt_eq, wrA_eq _ _ _ F.length rfl hl (by decide), lt_eq, wrA_eq _ _ _ F.length (by exact hF.1) hl (by decide), lt_eq, wrA_eq _ _ _ F.length (by exact hF.1) hl (by decide), lt_eq, st_eq, show ss (ss (ss τ 23 F.length k) 24 F.length e) 25 F.length n 22 3 = nI F.length from hF.1, nI_1]
  · rw [ss_c (by rintro rfl; exact absurd hc (by decide)), ss_c (by rintro rfl; exact absurd hc (by decide)), ss_c (by rintro rfl; exact absurd hc (by decide)), ss_c (by rintro rfl; exact absurd hc (by decide))]
    exact hA.1 c hc
  · show nI (F.length + 1) = _
    rw [List.length_append]; rfl
  · rw [List.length_append] at hi
    have hi' : i < F.length + 1 := hi
    show upd (τ 23) F.length k i = _ ∧ upd (τ 24) F.length e i = _ ∧ upd (τ 25) F.length n i = _
    by_cases g : i = F.length
    · subst g; rw [upd_s, upd_s, upd_s, fg_new]; exact ⟨rfl, rfl, rfl⟩
    · rw [upd_n g, upd_n g, upd_n g, fg_old (by omega)]; exact hF.2 i (by omega)
  · rw [ss_c c1, ss_c c4, ss_c c3, ss_c c2]
theorem x8_app {N : Nat} {σ τ : Sg} {F : List (Int32 × Int32 × Int32)} (hA : AgR σ τ) (hF : FR τ F) (hl : F.length < 700) (k e n : Int32) : ∃ τ', f_X8_add N k e n τ = some (0, τ') ∧ AgR σ τ' ∧ FR τ' (F ++ [(k, e, n)]) := by
  refine ⟨ss (ss (ss (ss τ 53 F.length k) 54 F.length e) 55 F.length n) 35 25 (nI (F.length + 1)), ?_, ⟨fun c hc => ?_, fun i hi => ?_⟩, ⟨?_, fun i hi => ?_⟩⟩
  · rw [f_X8_add, lt_eq, wrA_eq _ _ _ F.length (by exact hF.1) hl (by decide), lt_eq, wrA_eq _ _ _ F.length (by exact hF.1) hl (by decide), lt_eq, wrA_eq _ _ _ F.length (by exact hF.1) hl (by decide), lt_eq, st_eq, show ss (ss (ss τ 53 F.length k) 54 F.length e) 55 F.length n 35 25 = nI F.length from hF.1, nI_1]
  · rw [ss_c (by rintro rfl; exact absurd hc (by decide)), ss_c (by rintro rfl; exact absurd hc (by decide)), ss_c (by rintro rfl; exact absurd hc (by decide)), ss_c (by rintro rfl; exact absurd hc (by decide))]
    exact hA.1 c hc
  · show upd (τ 35) 25 _ i = _
    rw [upd_n hi]; exact hA.2 i hi
  · show nI (F.length + 1) = _
    rw [List.length_append]; rfl
  · rw [List.length_append] at hi
    have hi' : i < F.length + 1 := hi
    show upd (τ 53) F.length k i = _ ∧ upd (τ 54) F.length e i = _ ∧ upd (τ 55) F.length n i = _
    by_cases g : i = F.length
    · subst g; rw [upd_s, upd_s, upd_s, fg_new]; exact ⟨rfl, rfl, rfl⟩
    · rw [upd_n g, upd_n g, upd_n g, fg_old (by omega)]; exact hF.2 i (by omega)
/-- the faults of one kind, told by a row of numbers -/
def flt (x : Nat → (Int32 × Int32 × Int32)) (P : Nat → Bool) : Nat → Nat → List (Int32 × Int32 × Int32)
  | 0, _ => []
  | r + 1, e => if P e = true then x e :: flt x P r (e + 1) else flt x P r (e + 1)
theorem fl_le (x : Nat → (Int32 × Int32 × Int32)) (P : Nat → Bool) : ∀ r e, (flt x P r e).length ≤ r := by
  intro r
  induction r with
  | zero => intro e; exact Nat.le_refl _
  | succ r ih =>
    intro e
    have := ih (e + 1)
    rw [flt]
    by_cases g : P e = true
    · rw [if_pos g, List.length_cons]; omega
    · rw [if_neg g]; omega
theorem fl_ex (x y : Nat → (Int32 × Int32 × Int32)) (P Q : Nat → Bool) (h : ∀ e, ¬ (P e = true ∧ Q e = true)) : ∀ r e, (flt x P r e).length + (flt y Q r e).length ≤ r := by
  intro r
  induction r with
  | zero => intro e; exact Nat.le_refl _
  | succ r ih =>
    intro e
    have := ih (e + 1)
    rw [flt, flt]
    by_cases g : P e = true
    · have g2 : ¬ Q e = true := fun g2 => h e ⟨g, g2⟩
      rw [if_pos g, if_neg g2, List.length_cons]; omega
    · rw [if_neg g]
      by_cases g2 : Q e = true
      · rw [if_pos g2, List.length_cons]; omega
      · rw [if_neg g2]; omega
theorem fl_class {N : Nat} {σ : Sg} {ne lo : Nat} {x : Nat → (Int32 × Int32 × Int32)} {P : Nat → Bool} {J : Sg → Prop} (g : Nat → Int32 → Sg → Option (Int32 × Sg)) (K : Sg → Option (Int32 × Sg)) (hJ : ∀ τ τ', J τ → (∀ c, c ≠ 20 → c ≠ 21 → c ≠ 22 → c ≠ 23 → c ≠ 24 → c ≠ 25 → τ' c = τ c) → J τ') (hend : ∀ n τ, AgC σ τ → J τ → g (n + 1) (nI ne) τ = K τ) (hstep : ∀ n e τ, AgC σ τ → J τ → lo ≤ e → e < ne → ∃ τ1, AgC σ τ1 ∧ (∀ c, c ≠ 20 → c ≠ 21 → τ1 c = τ c) ∧ g (n + 1) (nI e) τ = if P e = true then cI (f_X0_append N (x e).1 (x e).2.1 (x e).2.2 τ1) (fun _ σ' => g n (nI (e + 1)) σ') else g n (nI (e + 1)) τ1) : ∀ (r e fuel : Nat) (F : List (Int32 × Int32 × Int32)) (τ : Sg), lo ≤ e → e + r = ne → AgC σ τ → J τ → FC τ F → F.length + r ≤ 760 → r < fuel → ∃ τ', g fuel (nI e) τ = K τ' ∧ AgC σ τ' ∧ J τ' ∧ FC τ' (F ++ flt x P r e) := by
  intro r
  induction r with
  | zero =>
    intro e fuel F τ hlo he hA hj hF hl hf
    obtain ⟨fuel, rfl⟩ : ∃ k, fuel = k + 1 := ⟨fuel - 1, by omega⟩
    refine ⟨τ, by rw [show e = ne by omega]; exact hend fuel τ hA hj, hA, hj, ?_⟩
    rw [flt, List.append_nil]; exact hF
  | succ r ih =>
    intro e fuel F τ hlo he hA hj hF hl hf
    obtain ⟨fuel, rfl⟩ : ∃ k, fuel = k + 1 := ⟨fuel - 1, by omega⟩
    obtain ⟨τ1, h1, h2, h3⟩ := hstep fuel e τ hA hj hlo (by omega)
    have hj1 : J τ1 := hJ τ τ1 hj (fun c c1 c2 _ _ _ _ => h2 c c1 c2)
    have hF1 : FC τ1 F := by
      unfold FC
      rw [h2 22 (by decide) (by decide), h2 23 (by decide) (by decide), h2 24 (by decide) (by decide), h2 25 (by decide) (by decide)]
      exact hF
    rw [h3, flt]
    by_cases gp : P e = true
    · rw [if_pos gp, if_pos gp]
      obtain ⟨τ2, a1, a2, a3, a4⟩ := x0_app (N := N) h1 hF1 (by omega) (x e).1 (x e).2.1 (x e).2.2
      rw [a1, cI_eq]
      obtain ⟨τ', b1, b2, b4, b3⟩ := ih (e + 1) fuel (F ++ [((x e).1, (x e).2.1, (x e).2.2)]) τ2 (by omega) (by omega) a2 (hJ τ1 τ2 hj1 (fun c _ _ c1 c2 c3 c4 => a4 c c1 c2 c3 c4)) a3 (by rw [List.length_append]; simp; omega) (by omega)
      refine ⟨τ', b1, b2, b4, ?_⟩
      rw [List.append_assoc] at b3
      exact b3
    · rw [if_neg gp, if_neg gp]
      exact ih (e + 1) fuel F τ1 (by omega) (by omega) h1 hj1 hF1 (by omega) (by omega)
theorem fl_ref {N : Nat} {σ : Sg} {ne : Nat} {x : Nat → (Int32 × Int32 × Int32)} {P : Nat → Bool} (g : Nat → Int32 → Sg → Option (Int32 × Sg)) (K : Sg → Option (Int32 × Sg)) (hend : ∀ n τ, AgR σ τ → g (n + 1) (nI ne) τ = K τ) (hstep : ∀ n e τ, AgR σ τ → e < ne → ∃ τ1, AgR σ τ1 ∧ (∀ c, c ≠ 56 → τ1 c = τ c) ∧ g (n + 1) (nI e) τ = if P e = true then cI (f_X8_add N (x e).1 (x e).2.1 (x e).2.2 τ1) (fun _ σ' => g n (nI (e + 1)) σ') else g n (nI (e + 1)) τ1) : ∀ (r e fuel : Nat) (F : List (Int32 × Int32 × Int32)) (τ : Sg), e + r = ne → AgR σ τ → FR τ F → F.length + (flt x P r e).length ≤ 700 → r < fuel → ∃ τ', g fuel (nI e) τ = K τ' ∧ AgR σ τ' ∧ FR τ' (F ++ flt x P r e) := by
  intro r
  induction r with
  | zero =>
    intro e fuel F τ he hA hF hl hf
    obtain ⟨fuel, rfl⟩ : ∃ k, fuel = k + 1 := ⟨fuel - 1, by omega⟩
    refine ⟨τ, by rw [show e = ne by omega]; exact hend fuel τ hA, hA, ?_⟩
    rw [flt, List.append_nil]; exact hF
  | succ r ih =>
    intro e fuel F τ he hA hF hl hf
    obtain ⟨fuel, rfl⟩ : ∃ k, fuel = k + 1 := ⟨fuel - 1, by omega⟩
    obtain ⟨τ1, h1, h2, h3⟩ := hstep fuel e τ hA (by omega)
    have hF1 : FR τ1 F := by
      unfold FR
      rw [h2 35 (by decide), h2 53 (by decide), h2 54 (by decide), h2 55 (by decide)]
      exact hF
    rw [h3]
    by_cases gp : P e = true
    · have e1 : flt x P (r + 1) e = x e :: flt x P r (e + 1) := by rw [flt, if_pos gp]
      rw [e1, List.length_cons] at hl
      rw [if_pos gp, e1]
      obtain ⟨τ2, a1, a2, a3⟩ := x8_app (N := N) h1 hF1 (by omega) (x e).1 (x e).2.1 (x e).2.2
      rw [a1, cI_eq]
      obtain ⟨τ', b1, b2, b3⟩ := ih (e + 1) fuel (F ++ [((x e).1, (x e).2.1, (x e).2.2)]) τ2 (by omega) a2 a3 (by rw [List.length_append]; simp; omega) (by omega)
      refine ⟨τ', b1, b2, ?_⟩
      rw [List.append_assoc] at b3
      exact b3
    · have e1 : flt x P (r + 1) e = flt x P r (e + 1) := by rw [flt, if_neg gp]
      rw [e1] at hl
      rw [if_neg gp, e1]
      exact ih (e + 1) fuel F τ1 (by omega) h1 hF1 (by omega) (by omega)
