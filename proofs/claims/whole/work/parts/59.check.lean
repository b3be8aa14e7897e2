section CK
variable {σ ρ : Sg} {ne nk np nt ns nf : Nat} {kp kn sh ix : Nat → Nat} {N : Nat}
theorem r_late (hI : IA σ ne nk np nt ns nf kp kn sh) (hB : RB σ ρ) (hN9 : 1000 ≤ N) {m : Nat → Nat} {c i nM : Nat} (hc : c < 200) (hi : i < nM) (hnM : nM ≤ 160) (K : Int32 → Sg → Option (Int32 × Sg)) {τ : Sg} (hA : AgR ρ τ) (h47 : ∀ j, j < nM → τ 47 j = nI (m j)) (hm : ∀ j, j < nM → m j < 60 ∨ (1000 ≤ m j ∧ m j < 1200)) : ∀ (r j fuel : Nat), j + r = i → r < fuel → f_X8_addOrder_38 N (nI i) (nI c) K fuel (nI (lai (ppN σ) m (c / 20) j)) (nI j) τ = K (nI (lai (ppN σ) m (c / 20) i)) τ := by
  have h15 : τ 35 15 = nI ns := by rw [rb_i hB hA (by decide) (by decide) (by decide) (by decide)]; exact hI.1.2.2.2.2.2.2.2.1
  have hs : ∀ j, j < ns → τ 46 j = nI (sh j) ∧ sh j < 200 := by rw [rb_c hB hA (c := 46) (by decide) (by decide)]; exact hI.2.2.2.2.2.2.1.1
  intro r
  induction r with
  | zero =>
    intro j fuel hj hf
    obtain ⟨fuel, rfl⟩ : ∃ k, fuel = k + 1 := ⟨fuel - 1, by omega⟩
    rw [f_X8_addOrder_38, if_pos (nI_le (by omega) (by omega)), show j = i by omega]
  | succ r ih =>
    intro j fuel hj hf
    obtain ⟨fuel, rfl⟩ : ∃ k, fuel = k + 1 := ⟨fuel - 1, by omega⟩
    have h1 := hm j (by omega)
    have h2 := h47 j (by omega)
    have IH := ih (j + 1) fuel (by omega) (by omega)
    rw [f_X8_addOrder_38, if_neg (nI_ge (by omega) (by omega)), rdA_v j (nI (m j)) rfl (by omega) (by decide) h2]
    by_cases g : m j < 1000
    · rw [lai, if_neg (fun h => absurd h.1 (by omega))] at IH
      rw [if_pos (by rw [show (1000 : Int32) = nI 1000 from rfl, ltN (by omega) (by decide)]; exact g), lt_eq, nI_1]
      exact IH
    · obtain ⟨d, hd⟩ : ∃ d, d = m j - 1000 := ⟨_, rfl⟩
      have hd2 : d < 200 := by omega
      have e3 : nI (m j) - 1000 = nI d := by
        rw [show m j = 1000 + d by omega, ← nI_add, show (1000 : Int32) = nI 1000 from rfl, Int32.add_comm, Int32.add_sub_cancel]
      obtain ⟨p1, p2, p3⟩ := pp_ok (N := N) hI hd2
      rw [if_neg (by rw [show (1000 : Int32) = nI 1000 from rfl, ltN (by omega) (by decide)]; exact g), rdA_v j (nI (m j)) rfl (by omega) (by decide) h2, e3, nI_div20 (by omega), nI_div20 (by omega)]
      by_cases g1 : d / 20 = c / 20
      · rw [if_pos (by rw [g1]), rdA_v j (nI (m j)) rfl (by omega) (by decide) h2, e3, p3 τ (by omega) h15 hs, cI_eq]
        by_cases g0 : ppN σ d = 0
        · rw [lai, if_neg (fun h => h.2.2 (by rw [← hd]; exact g0))] at IH
          rw [if_pos (by rw [g0]; decide), lt_eq, nI_1]
          exact IH
        · rw [lai, if_pos ⟨by omega, by rw [← hd]; exact g1, by rw [← hd]; exact g0⟩, ← hd] at IH
          rw [if_neg (nI_nle (by omega) (by omega)), rdA_v j (nI (m j)) rfl (by omega) (by decide) h2, e3, p3 τ (by omega) h15 hs, cI_eq, lt_eq, nI_1]
          exact IH
      · rw [lai, if_neg (fun h => g1 (by rw [hd]; exact h.2.1))] at IH
        rw [if_neg (by rw [eqN (by omega) (by omega)]; exact g1), lt_eq, nI_1]
        exact IH
theorem r_order (hI : IA σ ne nk np nt ns nf kp kn sh) (hB : RB σ ρ) (hN9 : 1000 ≤ N) {m mp : Nat → Nat} {nM : Nat} (hnM : nM ≤ 160) (h17 : ρ 35 17 = nI nM) (h47 : ∀ j, j < nM → ρ 47 j = nI (m j)) (h48 : ∀ j, j < nM → ρ 48 j = nI (mp j)) (hm : ∀ j, j < nM → m j < 60 ∨ (1000 ≤ m j ∧ m j < 1200)) {F : List (Int32 × Int32 × Int32)} {τ : Sg} (hA : AgR ρ τ) (hF : FR τ F) (hl : F.length + (flt (x10 m mp) (Q10 (ppN σ) m) nM 0).length ≤ 700) : ∃ τ', f_X8_addOrder N τ = some (0, τ') ∧ AgR ρ τ' ∧ FR τ' (F ++ flt (x10 m mp) (Q10 (ppN σ) m) nM 0) := by
  have := fl_ref (N := N) (σ := ρ) (ne := nM) (x := x10 m mp) (P := Q10 (ppN σ) m) (fun n x τ => f_X8_addOrder_2 N (fun σ37 => some (0, σ37)) n x τ) (fun σ37 => some (0, σ37)) (fun n τ hA => ?_) (fun n i τ hA hi => ⟨τ, hA, fun c _ => rfl, ?_⟩) nM 0 N F τ (by omega) hA hF hl (by omega)
  · exact this
  · show f_X8_addOrder_2 N _ (n + 1) (nI nM) τ = _
    rw [f_X8_addOrder_2, lt_eq, hA.2 17 (by decide), h17, if_pos (nI_le (Nat.le_refl _) (by omega))]
  · show f_X8_addOrder_2 N _ (n + 1) (nI i) τ = _
    have h15 : τ 35 15 = nI ns := by rw [rb_i hB hA (by decide) (by decide) (by decide) (by decide)]; exact hI.1.2.2.2.2.2.2.2.1
    have hs : ∀ j, j < ns → τ 46 j = nI (sh j) ∧ sh j < 200 := by rw [rb_c hB hA (c := 46) (by decide) (by decide)]; exact hI.2.2.2.2.2.2.1.1
    have t47 : ∀ j, j < nM → τ 47 j = nI (m j) := by rw [hA.1 47 rfl]; exact h47
    rw [f_X8_addOrder_2, lt_eq, hA.2 17 (by decide), h17, if_neg (nI_ge hi (by omega)), rdA_v i (nI (m i)) rfl (by omega) (by decide) (t47 i hi), lt_eq]
    rcases hm i hi with g | g
    · have hneg : nI (m i) - 1000 < 0 := by
        have hall : ∀ v : Fin 60, nI v.1 - 1000 < 0 := by decide +kernel
        exact hall ⟨m i, g⟩
      rw [if_pos hneg, lt_eq, nI_1, if_neg (by simp [Q10]; omega)]
    · obtain ⟨c, hc⟩ : ∃ c, c = m i - 1000 := ⟨_, rfl⟩
      have hc2 : c < 200 := by omega
      have e3 : nI (m i) - 1000 = nI c := by
        rw [show m i = 1000 + c by omega, ← nI_add, show (1000 : Int32) = nI 1000 from rfl, Int32.add_comm, Int32.add_sub_cancel]
      obtain ⟨p1, p2, p3⟩ := pp_ok (N := N) hI hc2
      have hlp := lai_le (pp := ppN σ) (m := m) (fun c hc => (pp_ok (N := N) hI hc).2.1) (c / 20) i (fun i' hi' => by rcases hm i' (by omega) with g | g <;> omega)
      rw [e3, if_neg (nI_pos (by omega)), p3 τ (by omega) h15 hs, cI_eq]
      by_cases g0 : ppN σ c = 0
      · rw [if_pos (by rw [g0]; decide), lt_eq, nI_1, if_neg (by simp [Q10, ← hc, g0])]
      · rw [if_neg (nI_nle (by omega) (by omega))]
        have hlate := r_late (N := N) hI hB hN9 hc2 hi hnM (fun v27 σ28 => cI (f_X8_placeOf N (nI c) σ28) (fun v29 σ30 => if v27 ≤ v29 then (lt (nI i + 1) (fun v32 => f_X8_addOrder_2 N (fun σ37 => some (0, σ37)) n v32 σ30)) else (rdA 160 (σ30 48) (nI i) (fun v33 => cI (f_X8_add N 10 v33 (nI c) σ30) (fun v34 σ35 => lt (nI i + 1) (fun v36 => f_X8_addOrder_2 N (fun σ37 => some (0, σ37)) n v36 σ35)))))) hA t47 hm i 0 N (by omega) (by omega)
        rw [show lai (ppN σ) m (c / 20) 0 = 0 from rfl, nI_0] at hlate
        rw [hlate, p3 τ (by omega) h15 hs, cI_eq]
        by_cases gl9 : lai (ppN σ) m (c / 20) i ≤ ppN σ c
        · rw [if_pos (nI_le gl9 (by omega)), if_neg (by simp [Q10, ← hc]; omega), lt_eq, nI_1]
        · rw [if_neg (nI_ge (by omega) (by omega)), if_pos (by simp [Q10, ← hc, g0, g.1]; omega), rdA_v i (nI (mp i)) rfl (by omega) (by decide) (by rw [hA.1 48 rfl]; exact h48 i hi)]
          simp only [lt_eq, nI_1, x10, ← hc]
theorem q10_le {x : Nat → Int32 × Int32 × Int32} {pp m : Nat → Nat} : ∀ (R : List Nat) (i : Nat), (∀ i', i' < R.length → m (i + i') = gl R i') → (flt x (Q10 pp m) R.length i).length ≤ (ptn R).length := by
  intro R
  induction R with
  | nil => intro i _; exact Nat.le_refl _
  | cons y R ih =>
    intro i hm
    have hx : m i = y := by have := hm 0 (by rw [List.length_cons]; omega); rw [gl_0] at this; exact this
    have := ih (i + 1) (fun i' hi' => by
      have := hm (i' + 1) (by rw [List.length_cons]; omega)
      rw [gl_s] at this
      rw [show i + 1 + i' = i + (i' + 1) by omega]; exact this)
    rw [List.length_cons, flt, ptn]
    by_cases g : y < 1000
    · rw [if_pos g, if_neg (by simp [Q10]; omega)]; exact this
    · rw [if_neg g, List.length_cons]
      by_cases g2 : Q10 pp m i = true
      · rw [if_pos g2, List.length_cons]; omega
      · rw [if_neg g2]; omega
theorem cf_fill (K : Sg → Option (Int32 × Sg)) : ∀ (n x fuel : Nat) (τ : Sg), x + n = 10 → (∀ i, i < x → τ 33 i = -1) → n < fuel → ∃ τ', f_J7_fill_33_5 N (-1) 10 K fuel (nI x) τ = K τ' ∧ (∀ i, i < 10 → τ' 33 i = -1) ∧ ∀ c, c ≠ 33 → τ' c = τ c := by
  intro n
  induction n with
  | zero =>
    intro x fuel τ hx h hf
    obtain ⟨fuel, rfl⟩ : ∃ k, fuel = k + 1 := ⟨fuel - 1, by omega⟩
    refine ⟨τ, ?_, fun i hi => h i (by omega), fun c _ => rfl⟩
    rw [f_J7_fill_33_5, if_pos (by rw [show x = 10 by omega]; decide)]
  | succ n ih =>
    intro x fuel τ hx h hf
    obtain ⟨fuel, rfl⟩ : ∃ k, fuel = k + 1 := ⟨fuel - 1, by omega⟩
    obtain ⟨τ', t1, t2, t3⟩ := ih (x + 1) fuel (ss τ 33 x (-1)) (by omega) (fun i hi => by
      show upd (τ 33) x (-1) i = _
      by_cases e : i = x
      · subst e; rw [upd_s]
      · rw [upd_n e]; exact h i (by omega)) (by omega)
    refine ⟨τ', ?_, t2, fun c hc => by rw [t3 c hc, ss_c hc]⟩
    rw [f_J7_fill_33_5, if_neg (by rw [show (10 : Int32) = nI 10 from rfl, leN (by decide) (by omega)]; omega), wrA_eq _ _ _ x rfl (by omega) (by decide), lt_eq, nI_1]
    exact t1
theorem ag_w {τ τ' : Sg} (hA : AgC σ τ) (h : ∀ c, Wc c = false → τ' c = τ c) (h0 : τ' 0 13 = τ 0 13) : AgC σ τ' :=
  ⟨fun c hc => by rw [h c hc, hA.1 c hc], by rw [h0]; exact hA.2⟩
theorem fc_w {τ τ' : Sg} {F : List (Int32 × Int32 × Int32)} (hF : FC τ F) (h : ∀ c, 22 ≤ c → c ≤ 25 → τ' c = τ c) : FC τ' F := by
  unfold FC
  rw [h 22 (by decide) (by decide), h 23 (by decide) (by decide), h 24 (by decide) (by decide), h 25 (by decide) (by decide)]
  exact hF
end CK
