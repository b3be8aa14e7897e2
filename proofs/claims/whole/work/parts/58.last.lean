def x8k (σ : Sg) (i : Nat) : Int32 × Int32 × Int32 := (8, σ 45 i, σ 44 i)
def x9k (U : List Nat) (i : Nat) : Int32 × Int32 × Int32 := (9, -1, nI (gl U i))
def la1 (v : Nat) : Int32 := nI v + (-1)
theorem la1_int {v : Nat} (h : v ≤ 1000) : (la1 v).toInt = (v : Int) - 1 := by
  unfold la1
  cases v with
  | zero => decide
  | succ v => rw [nI_dec, nI_toInt (by omega)]; omega
theorem la1_le {a b : Nat} (ha : a ≤ 1000) (hb : b ≤ 1000) : la1 a ≤ la1 b ↔ a ≤ b := by
  rw [Int32.le_iff_toInt_le, la1_int ha, la1_int hb]; omega
theorem la1_m1 {a : Nat} (ha : a ≤ 1000) : la1 a = -1 ↔ a = 0 := by
  constructor
  · intro h
    have := la1_int ha
    rw [h] at this
    have e : (-1 : Int32).toInt = -1 := by decide
    omega
  · intro h; rw [h]; rfl
def ppN (σ : Sg) (c : Nat) : Nat := (σ 14 c + 1).toNatClampNeg
/-- the latest place on page p before the i-th that is met -/
def lai (pp m : Nat → Nat) (p : Nat) : Nat → Nat
  | 0 => 0
  | i + 1 => if 1000 ≤ m i ∧ (m i - 1000) / 20 = p ∧ pp (m i - 1000) ≠ 0 then pp (m i - 1000) else lai pp m p i
def x10 (m mp : Nat → Nat) (i : Nat) : Int32 × Int32 × Int32 := (10, nI (mp i), nI (m i - 1000))
def Q10 (pp m : Nat → Nat) (i : Nat) : Bool := decide (1000 ≤ m i) && (decide (pp (m i - 1000) ≠ 0) && decide (pp (m i - 1000) < lai pp m ((m i - 1000) / 20) i))
section LS
variable {σ ρ : Sg} {ne nk np nt ns nf : Nat} {kp kn sh ix : Nat → Nat} {N : Nat}
theorem c_kind8 (hI : IA σ ne nk np nt ns nf kp kn sh) (hN9 : 1000 ≤ N) (K : Sg → Option (Int32 × Sg)) {F : List (Int32 × Int32 × Int32)} {τ : Sg} (hA : AgC σ τ) (hF : FC τ F) (hl : F.length + nt ≤ 760) : ∃ τ', f_X7_findRepeats_2 N K N (nI 0) τ = K τ' ∧ AgC σ τ' ∧ True ∧ FC τ' (F ++ flt (x8k σ) (fun _ => true) nt 0) := by
  have n5 : σ 0 13 = nI nt := hI.1.2.2.2.2.1
  have n14 : nt ≤ 40 := hI.1.2.2.2.2.2.2.2.2.2.2.2.2.2.1
  refine fl_class (N := N) (ne := nt) (lo := 0) (x := x8k σ) (P := fun _ => true) (J := fun _ => True) (fun n x τ => f_X7_findRepeats_2 N K n x τ) K (fun _ _ _ _ => trivial) (fun n τ hA _ => ?_) (fun n e τ hA _ _ he => ⟨τ, hA, fun c _ _ => rfl, ?_⟩) nt 0 N F τ (by omega) (by omega) hA trivial hF (by omega) (by omega)
  · show f_X7_findRepeats_2 N K (n + 1) (nI nt) τ = K τ
    rw [f_X7_findRepeats_2, lt_eq, hA.2, n5, if_pos (nI_le (Nat.le_refl _) (by omega))]
  · show f_X7_findRepeats_2 N K (n + 1) (nI e) τ = _
    rw [f_X7_findRepeats_2, lt_eq, hA.2, n5, if_neg (nI_ge he (by omega)), rdA_v e (σ 45 e) rfl (by omega) (by decide) (by rw [hA.1 30 rfl, hI.2.1.2.2.2.2.2.2.1]), rdA_v e (σ 44 e) rfl (by omega) (by decide) (by rw [hA.1 31 rfl, hI.2.1.2.2.2.2.2.2.2]), if_pos rfl]
    simp only [lt_eq, nI_1, x8k]
theorem r_kind8 (hI : IA σ ne nk np nt ns nf kp kn sh) (hB : RB σ ρ) (hN9 : 1000 ≤ N) (K : Sg → Option (Int32 × Sg)) {F : List (Int32 × Int32 × Int32)} {τ : Sg} (hA : AgR ρ τ) (hF : FR τ F) (hl : F.length + (flt (x8k σ) (fun _ => true) nt 0).length ≤ 700) : ∃ τ', f_X8_check_74 N K N 0 τ = K τ' ∧ AgR ρ τ' ∧ FR τ' (F ++ flt (x8k σ) (fun _ => true) nt 0) := by
  have n6 : σ 35 12 = nI nt := hI.1.2.2.2.2.2.1
  have n14 : nt ≤ 40 := hI.1.2.2.2.2.2.2.2.2.2.2.2.2.2.1
  refine fl_ref (N := N) (ne := nt) (x := x8k σ) (P := fun _ => true) (fun n x τ => f_X8_check_74 N K n x τ) K (fun n τ hA => ?_) (fun n e τ hA he => ⟨τ, hA, fun c _ => rfl, ?_⟩) nt 0 N F τ (by omega) hA hF hl (by omega)
  · show f_X8_check_74 N K (n + 1) (nI nt) τ = K τ
    rw [f_X8_check_74, lt_eq, rb_i hB hA (by decide) (by decide) (by decide) (by decide), n6, if_pos (nI_le (Nat.le_refl _) (by omega))]
  · show f_X8_check_74 N K (n + 1) (nI e) τ = _
    rw [f_X8_check_74, lt_eq, rb_i hB hA (by decide) (by decide) (by decide) (by decide), n6, if_neg (nI_ge he (by omega)), rdA_v e (σ 45 e) rfl (by omega) (by decide) (by rw [rb_c hB hA (c := 45) (by decide) (by decide)]), rdA_v e (σ 44 e) rfl (by omega) (by decide) (by rw [rb_c hB hA (c := 44) (by decide) (by decide)]), if_pos rfl]
    simp only [lt_eq, nI_1, x8k]
theorem c_kind9 {U : List Nat} (hU : U.length ≤ 200) (hN9 : 1000 ≤ N) (K : Sg → Option (Int32 × Sg)) {F : List (Int32 × Int32 × Int32)} {τ : Sg} (hA : AgC σ τ) (hJ : τ 0 15 = nI U.length ∧ ∀ i, i < U.length → τ 32 i = nI (gl U i)) (hF : FC τ F) (hl : F.length + U.length ≤ 760) : ∃ τ', f_X7_findUntagged_6 N K N (nI 0) τ = K τ' ∧ AgC σ τ' ∧ (τ' 0 15 = nI U.length ∧ ∀ i, i < U.length → τ' 32 i = nI (gl U i)) ∧ FC τ' (F ++ flt (x9k U) (fun _ => true) U.length 0) := by
  refine fl_class (N := N) (ne := U.length) (lo := 0) (x := x9k U) (P := fun _ => true) (J := fun τ => τ 0 15 = nI U.length ∧ ∀ i, i < U.length → τ 32 i = nI (gl U i)) (fun n x τ => f_X7_findUntagged_6 N K n x τ) K (fun τ τ' hj hc => ?_) (fun n τ hA hj => ?_) (fun n e τ hA hj _ he => ⟨τ, hA, fun c _ _ => rfl, ?_⟩) U.length 0 N F τ (by omega) (by omega) hA hJ hF (by omega) (by omega)
  · show τ' 0 15 = nI U.length ∧ ∀ i, i < U.length → τ' 32 i = nI (gl U i)
    rw [hc 0 (by decide) (by decide) (by decide) (by decide) (by decide) (by decide), hc 32 (by decide) (by decide) (by decide) (by decide) (by decide) (by decide)]
    exact hj
  · show f_X7_findUntagged_6 N K (n + 1) (nI U.length) τ = K τ
    rw [f_X7_findUntagged_6, lt_eq, hj.1, if_pos (nI_le (Nat.le_refl _) (by omega))]
  · show f_X7_findUntagged_6 N K (n + 1) (nI e) τ = _
    rw [f_X7_findUntagged_6, lt_eq, hj.1, if_neg (nI_ge he (by omega)), rdA_v e (nI (gl U e)) rfl (by omega) (by decide) (hj.2 e he), if_pos rfl]
    simp only [lt_eq, nI_1, x9k]
theorem r_kind9 (hI : IA σ ne nk np nt ns nf kp kn sh) (hB : RB σ ρ) (hB7 : ∀ c, 5 ≤ c → c ≤ 8 → ρ c = σ c) (hN9 : 1000 ≤ N) (K : Sg → Option (Int32 × Sg)) {U : List Nat} (hU : U = Ul (σ 7) sh ns 10 0) (hUl : U.length ≤ 200) {F : List (Int32 × Int32 × Int32)} {τ : Sg} (hA : AgR ρ τ) (hF : FR τ F) (hl : F.length + (flt (x9k U) (fun _ => true) U.length 0).length ≤ 700) : ∃ τ', f_X8_check_108 N K N 0 τ = K τ' ∧ AgR ρ τ' ∧ FR τ' (F ++ flt (x9k U) (fun _ => true) U.length 0) := by
  have h60 := ne60 hI
  have n15 : ns ≤ 200 := hI.1.2.2.2.2.2.2.2.2.2.2.2.2.2.2.1
  have key : ∀ τ, AgR ρ τ → f_X8_countUntagged N τ = some (nI U.length, τ) ∧ ∀ z, z < 2 ^ 31 → f_X8_untaggedAt N (nI z) τ = some (pick z 0 U (-1), τ) := by
    intro τ hA
    obtain ⟨b1, b2, b3, b4⟩ := rb_K hI hB hA
    have h15 : τ 35 15 = nI ns := by rw [rb_i hB hA (by decide) (by decide) (by decide) (by decide)]; exact hI.1.2.2.2.2.2.2.2.1
    have hs : ∀ j, j < ns → τ 46 j = nI (sh j) ∧ sh j < 200 := by rw [rb_c hB hA (c := 46) (by decide) (by decide)]; exact hI.2.2.2.2.2.2.1.1
    have h5 : ∀ c, 5 ≤ c → c ≤ 8 → τ c = σ c := fun c c1 c2 => by rw [hA.1 c (by unfold Wr; simp; omega), hB7 c c1 c2]
    have ho : ∀ c, c < 200 → f_X8_ownerOf N (nI c) τ = some (σ 7 (60 + c), τ) := by
      intro c hc
      rw [x8_owner (N := N) (by omega) b1 b3 h60 b2 (by rw [h5 5 (by decide) (by decide), h5 6 (by decide) (by decide), h5 7 (by decide) (by decide), h5 8 (by decide) (by decide)]; exact hI.2.2.2.2.2.1) hc, h5 7 (by decide) (by decide)]
    exact ⟨by rw [x8_count (by omega) n15 h15 hs ho, hU], fun z hz => by rw [x8_uat (by omega) n15 hz h15 hs ho, hU]⟩
  refine fl_ref (N := N) (ne := U.length) (x := x9k U) (P := fun _ => true) (fun n x τ => f_X8_check_108 N K n x τ) K (fun n τ hA => ?_) (fun n e τ hA he => ⟨τ, hA, fun c _ => rfl, ?_⟩) U.length 0 N F τ (by omega) hA hF hl (by omega)
  · show f_X8_check_108 N K (n + 1) (nI U.length) τ = K τ
    rw [f_X8_check_108, (key τ hA).1, cI_eq, if_pos (nI_le (Nat.le_refl _) (by omega))]
  · show f_X8_check_108 N K (n + 1) (nI e) τ = _
    have hpk : pick e 0 U (-1) = nI (gl U e) := by unfold pick; rw [if_pos (by omega), Nat.sub_zero]
    rw [f_X8_check_108, (key τ hA).1, cI_eq, if_neg (nI_ge he (by omega)), (key τ hA).2 e (by omega), cI_eq, hpk, if_pos rfl]
    simp only [lt_eq, nI_1, x9k]
theorem pp_ok (hI : IA σ ne nk np nt ns nf kp kn sh) {c : Nat} (hc : c < 200) : σ 14 c = la1 (ppN σ c) ∧ ppN σ c ≤ 201 ∧ ∀ τ : Sg, 300 ≤ N → τ 35 15 = nI ns → (∀ j, j < ns → τ 46 j = nI (sh j) ∧ sh j < 200) → f_X8_placeOf N (nI c) τ = some (nI (ppN σ c), τ) := by
  have n15 : ns ≤ 200 := hI.1.2.2.2.2.2.2.2.2.2.2.2.2.2.2.1
  have hP := hI.2.2.2.2.2.2.1
  by_cases h : ∃ t, t < ns ∧ sh t = c
  · obtain ⟨t, t1, t2⟩ := h
    have h1 := (hP.2.2.2.1 t t1).1
    rw [t2] at h1
    have h2 := cnt_le sh (c / 20) t
    have e1 : ppN σ c = cnt sh (c / 20) t + 1 := by unfold ppN; rw [h1, nI_1, nI_clamp (by omega)]
    refine ⟨?_, by omega, fun τ hN9 h15 hs => ?_⟩
    · rw [e1, h1]; unfold la1; rw [nI_dec]
    · rw [x8_place_y (by omega) h15 n15 hs hP.2.1 hc t1 t2, e1]
  · have hno : ∀ j, j < ns → sh j ≠ c := fun j hj e => h ⟨j, hj, e⟩
    have h1 := hP.2.2.2.2 c hc hno
    have e1 : ppN σ c = 0 := by unfold ppN; rw [h1]; decide
    refine ⟨by rw [e1, h1]; rfl, by omega, fun τ hN9 h15 hs => ?_⟩
    rw [x8_place_n (by omega) h15 n15 hs hc hno, e1]
    rfl
theorem lai_le {pp m : Nat → Nat} (h : ∀ c, c < 200 → pp c ≤ 201) (p : Nat) : ∀ i, (∀ i', i' < i → m i' < 1200) → lai pp m p i ≤ 201 := by
  intro i
  induction i with
  | zero => intro _; exact Nat.zero_le _
  | succ i ih =>
    intro hm
    rw [lai]
    by_cases g : 1000 ≤ m i ∧ (m i - 1000) / 20 = p ∧ pp (m i - 1000) ≠ 0
    · rw [if_pos g]; exact h _ (by have := hm i (by omega); omega)
    · rw [if_neg g]; exact ih (fun i' hi' => hm i' (by omega))
theorem c_order (hI : IA σ ne nk np nt ns nf kp kn sh) (hN9 : 1000 ≤ N) {m mp : Nat → Nat} (K : Sg → Option (Int32 × Sg)) : ∀ (R : List Nat) (i k fuel : Nat) (F : List (Int32 × Int32 × Int32)) (τ : Sg), (∀ i', i' < R.length → m (i + i') = gl R i') → (∀ i', i' < i + R.length → m i' < 60 ∨ (1000 ≤ m i' ∧ m i' < 1200 ∧ σ 7 (60 + (m i' - 1000)) = nI (mp i'))) → (∀ s, s < (ptn R).length → τ 11 (k + s) = nI (gl (ptn R) s)) → τ 9 4 = nI (k + (ptn R).length) → k + (ptn R).length ≤ 100 → (∀ p, p < 10 → τ 33 p = la1 (lai (ppN σ) m p i)) → AgC σ τ → FC τ F → F.length + (ptn R).length ≤ 760 → R.length < fuel → ∃ τ', f_X7_findOutOfOrder_17 N K fuel (nI k) τ = K τ' ∧ AgC σ τ' ∧ FC τ' (F ++ flt (x10 m mp) (Q10 (ppN σ) m) R.length i) := by
  intro R
  induction R with
  | nil =>
    intro i k fuel F τ hm hr h11 h94 hk h33 hA hF hl hf
    obtain ⟨fuel, rfl⟩ : ∃ k, fuel = k + 1 := ⟨fuel - 1, by omega⟩
    refine ⟨τ, ?_, hA, ?_⟩
    · rw [f_X7_findOutOfOrder_17, lt_eq, h94, if_pos (nI_le (by rw [ptn, List.length_nil]; omega) (by omega))]
    · rw [List.length_nil, flt, List.append_nil]; exact hF
  | cons x R ih =>
    intro i k fuel F τ hm hr h11 h94 hk h33 hA hF hl hf
    rw [List.length_cons] at hr hf
    have hx : m i = x := by have := hm 0 (by rw [List.length_cons]; omega); rw [gl_0] at this; exact this
    have hm' : ∀ i', i' < R.length → m (i + 1 + i') = gl R i' := fun i' hi' => by
      have := hm (i' + 1) (by rw [List.length_cons]; omega)
      rw [gl_s] at this
      rw [show i + 1 + i' = i + (i' + 1) by omega]; exact this
    have hr' : ∀ i', i' < i + 1 + R.length → m i' < 60 ∨ (1000 ≤ m i' ∧ m i' < 1200 ∧ σ 7 (60 + (m i' - 1000)) = nI (mp i')) := fun i' hi' => hr i' (by omega)
    have hll := lai_le (pp := ppN σ) (m := m) (fun c hc => (pp_ok (N := N) hI hc).2.1)
    have hm12 : ∀ i', i' < i + 1 → m i' < 1200 := fun i' hi' => by rcases hr i' (by omega) with g | g <;> omega
    rw [List.length_cons, flt]
    rcases hr i (by omega) with g | g
    · have e1 : ptn (x :: R) = ptn R := by rw [ptn, if_pos (by omega)]
      rw [e1] at h11 h94 hk hl
      rw [if_neg (by simp [Q10]; omega)]
      exact ih (i + 1) k fuel F τ hm' hr' h11 h94 hk (fun p hp => by rw [lai, if_neg (fun h => absurd h.1 (by omega))]; exact h33 p hp) hA hF hl (by omega)
    · obtain ⟨fuel, rfl⟩ : ∃ k, fuel = k + 1 := ⟨fuel - 1, by omega⟩
      have e1 : ptn (x :: R) = (x - 1000) :: ptn R := by rw [ptn, if_neg (by omega)]
      rw [e1] at h11 h94 hk hl
      rw [List.length_cons] at h94 hk hl
      obtain ⟨c, hc⟩ : ∃ c, c = m i - 1000 := ⟨_, rfl⟩
      have hc2 : c < 200 := by omega
      obtain ⟨p1, p2, p3⟩ := pp_ok (N := N) hI hc2
      have h11c : τ 11 k = nI c := by
        have := h11 0 (by rw [List.length_cons]; omega)
        rw [gl_0] at this
        rw [hc, hx]; exact this
      have h11' : ∀ s, s < (ptn R).length → τ 11 (k + 1 + s) = nI (gl (ptn R) s) := fun s hs => by
        have := h11 (s + 1) (by rw [List.length_cons]; omega)
        rw [gl_s] at this
        rw [show k + 1 + s = k + (s + 1) by omega]; exact this
      have h7 : σ 7 (60 + c) = nI (mp i) := by rw [hc]; exact g.2.2
      have hlp := hll (c / 20) i (fun i' hi' => hm12 i' (by omega))
      rw [f_X7_findOutOfOrder_17, lt_eq, h94, if_neg (nI_ge (by omega) (by omega)), rdA_v k (nI c) rfl (by omega) (by decide) h11c, nI_div20 (by omega), lt_eq, f_X3_placeOf, rdA_v c (la1 (ppN σ c)) rfl (by omega) (by decide) (by rw [hA.1 14 rfl]; exact p1), cI_eq]
      by_cases g0 : ppN σ c = 0
      · rw [if_pos ((la1_m1 (by omega)).mpr g0), if_neg (by simp [Q10, ← hc, g0]), lt_eq, nI_1]
        exact ih (i + 1) (k + 1) fuel F τ hm' hr' h11' (by rw [h94]; congr 1; omega) (by omega) (fun p hp => by rw [lai, if_neg (fun h => h.2.2 (by rw [← hc]; exact g0))]; exact h33 p hp) hA hF (by omega) (by omega)
      · rw [if_neg (fun h => g0 ((la1_m1 (by omega)).mp h)), rdA_v (c / 20) (la1 (lai (ppN σ) m (c / 20) i)) rfl (by omega) (by decide) (h33 _ (by omega))]
        have h33' : ∀ τ2 : Sg, τ2 33 = upd (τ 33) (c / 20) (la1 (ppN σ c)) → ∀ p, p < 10 → τ2 33 p = la1 (lai (ppN σ) m p (i + 1)) := by
          intro τ2 e2 p hp
          rw [e2, lai]
          by_cases ep : c / 20 = p
          · rw [if_pos ⟨g.1, by rw [← hc]; exact ep, by rw [← hc]; exact g0⟩, ← ep, upd_s, ← hc]
          · rw [if_neg (fun h => ep (by rw [hc]; exact h.2.1)), upd_n (fun h => ep h.symm)]; exact h33 p hp
        by_cases gl9 : lai (ppN σ) m (c / 20) i ≤ ppN σ c
        · rw [if_pos ((la1_le (by omega) (by omega)).mpr gl9), if_neg (by simp [Q10, ← hc]; omega), wrA_eq _ _ _ (c / 20) rfl (by omega) (by decide), lt_eq, nI_1]
          exact ih (i + 1) (k + 1) fuel F (ss τ 33 (c / 20) (la1 (ppN σ c))) hm' hr' h11' (by show τ 9 4 = _; rw [h94]; congr 1; omega) (by omega) (h33' _ rfl) ⟨fun c hc => by rw [ss_c (by rintro rfl; exact absurd hc (by decide))]; exact hA.1 c hc, hA.2⟩ hF (by omega) (by omega)
        · rw [if_neg (fun h => gl9 ((la1_le (by omega) (by omega)).mp h)), if_pos (by simp [Q10, ← hc, g0, g.1]; omega), x6_holder hc2, cI_eq]
          obtain ⟨τ1, a1, a2, a3, a4⟩ := x0_app (N := N) hA hF (by omega) 10 (τ 7 (60 + c)) (nI c)
          rw [a1, cI_eq, wrA_eq _ _ _ (c / 20) rfl (by omega) (by decide), lt_eq, nI_1]
          have hv : τ 7 (60 + c) = nI (mp i) := by rw [hA.1 7 rfl]; exact h7
          rw [hv] at a3
          obtain ⟨τ', t1, t2, t3⟩ := ih (i + 1) (k + 1) fuel (F ++ [(10, nI (mp i), nI c)]) (ss τ1 33 (c / 20) (la1 (ppN σ c))) hm' hr' (by show ∀ s, s < _ → τ1 11 (k + 1 + s) = _; rw [a4 11 (by decide) (by decide) (by decide) (by decide)]; exact h11') (by show τ1 9 4 = _; rw [a4 9 (by decide) (by decide) (by decide) (by decide), h94]; congr 1; omega) (by omega) (h33' _ (by show upd (τ1 33) _ _ = _; rw [a4 33 (by decide) (by decide) (by decide) (by decide)])) ⟨fun c hc => by rw [ss_c (by rintro rfl; exact absurd hc (by decide))]; exact a2.1 c hc, a2.2⟩ a3 (by rw [List.length_append]; simp; omega) (by omega)
          refine ⟨τ', t1, t2, ?_⟩
          rw [List.append_assoc] at t3
          unfold x10
          rw [← hc]
          exact t3
end LS
