/-! ===== the marks that no part tells ===== -/
def ul (pa : Nat → Int32) (sh : Nat → Nat) (p : Nat) : Nat → Nat → List Nat
  | 0, _ => []
  | r + 1, j => if sh j / 20 = p ∧ pa (60 + sh j) = -1 then sh j :: ul pa sh p r (j + 1) else ul pa sh p r (j + 1)
def Ul (pa : Nat → Int32) (sh : Nat → Nat) (ns : Nat) : Nat → Nat → List Nat
  | 0, _ => []
  | q + 1, p => ul pa sh p ns 0 ++ Ul pa sh ns q (p + 1)
theorem wrL_app (l2 : List Nat) : ∀ (l1 : List Nat) (f : Nat → Int32) (u : Nat), wrL (wrL f u l1) (u + l1.length) l2 = wrL f u (l1 ++ l2) := by
  intro l1
  induction l1 with
  | nil => intro f u; rw [wrL_nil, List.length_nil, List.nil_append, Nat.add_zero]
  | cons x l1 ih =>
    intro f u
    rw [List.cons_append, ← wrL_cons, ← wrL_cons, List.length_cons, ← ih, show u + 1 + l1.length = u + (l1.length + 1) by omega]
def pick (z k : Nat) (l : List Nat) (x : Int32) : Int32 := if k ≤ z ∧ z < k + l.length then nI (gl l (z - k)) else x
theorem pick_nil (z k : Nat) (x : Int32) : pick z k [] x = x := by unfold pick; rw [if_neg (by rw [List.length_nil]; omega)]
theorem pick_cons (z k c : Nat) (l : List Nat) (x : Int32) : pick z (k + 1) l (if k = z then nI c else x) = pick z k (c :: l) x := by
  unfold pick
  by_cases e : k = z
  · subst e
    rw [if_neg (by omega), if_pos rfl, if_pos (by rw [List.length_cons]; omega), Nat.sub_self, gl_0]
  · rw [if_neg e]
    by_cases g : k + 1 ≤ z ∧ z < k + 1 + l.length
    · rw [if_pos g, if_pos (by rw [List.length_cons]; omega), show z - k = (z - (k + 1)) + 1 by omega, gl_s]
    · rw [if_neg g, if_neg (by rw [List.length_cons]; omega)]
theorem pick_app (z : Nat) (l2 : List Nat) : ∀ (l1 : List Nat) (k : Nat) (x : Int32), pick z (k + l1.length) l2 (pick z k l1 x) = pick z k (l1 ++ l2) x := by
  intro l1
  induction l1 with
  | nil => intro k x; rw [pick_nil, List.length_nil, List.nil_append, Nat.add_zero]
  | cons c l1 ih =>
    intro k x
    rw [List.cons_append, ← pick_cons, ← pick_cons, List.length_cons, ← ih, show k + 1 + l1.length = k + (l1.length + 1) by omega]
theorem ul_le (pa : Nat → Int32) (sh : Nat → Nat) (p : Nat) : ∀ r j, (ul pa sh p r j).length + cnt sh p j ≤ cnt sh p (j + r) := by
  intro r
  induction r with
  | zero => intro j; rw [ul, List.length_nil]; simp
  | succ r ih =>
    intro j
    have := ih (j + 1)
    rw [ul]
    rw [show j + 1 + r = j + (r + 1) by omega] at this
    have hm := cnt_mono sh p (show j ≤ j + 1 by omega)
    by_cases g : sh j / 20 = p ∧ pa (60 + sh j) = -1
    · rw [if_pos g, List.length_cons]
      rw [cnt, if_pos g.1] at this
      omega
    · rw [if_neg g]; omega
theorem ul_mem {pa : Nat → Int32} {sh : Nat → Nat} {p x : Nat} : ∀ {r j}, x ∈ ul pa sh p r j → ∃ i, j ≤ i ∧ i < j + r ∧ x = sh i := by
  intro r
  induction r with
  | zero => intro j h; exact absurd h (by simp [ul])
  | succ r ih =>
    intro j h
    rw [ul] at h
    by_cases g : sh j / 20 = p ∧ pa (60 + sh j) = -1
    · rw [if_pos g] at h
      rcases List.mem_cons.mp h with h | h
      · exact ⟨j, by omega, by omega, h⟩
      · obtain ⟨i, i1, i2, i3⟩ := ih h
        exact ⟨i, by omega, by omega, i3⟩
    · rw [if_neg g] at h
      obtain ⟨i, i1, i2, i3⟩ := ih h
      exact ⟨i, by omega, by omega, i3⟩
theorem Ul_mem {pa : Nat → Int32} {sh : Nat → Nat} {ns x : Nat} : ∀ {q p}, x ∈ Ul pa sh ns q p → ∃ i, i < ns ∧ x = sh i := by
  intro q
  induction q with
  | zero => intro p h; exact absurd h (by simp [Ul])
  | succ q ih =>
    intro p h
    rcases List.mem_append.mp h with h | h
    · obtain ⟨i, i1, i2, i3⟩ := ul_mem h
      exact ⟨i, by omega, i3⟩
    · exact ih h
/-- how many marks the first q pages show -/
def sumc (sh : Nat → Nat) (m : Nat) : Nat → Nat
  | 0 => 0
  | q + 1 => sumc sh m q + cnt sh q m
theorem sumc_s (sh : Nat → Nat) (m : Nat) : ∀ q, sumc sh (m + 1) q = sumc sh m q + (if sh m / 20 < q then 1 else 0) := by
  intro q
  induction q with
  | zero => rw [sumc, sumc, if_neg (by omega)]
  | succ q ih =>
    rw [sumc, sumc, ih, cnt]
    by_cases e : sh m / 20 = q
    · rw [if_pos e, if_neg (by omega), if_pos (by omega)]; omega
    · rw [if_neg e]
      by_cases g : sh m / 20 < q
      · rw [if_pos g, if_pos (by omega)]; omega
      · rw [if_neg g, if_neg (by omega)]; omega
theorem sumc_le (sh : Nat → Nat) (q : Nat) : ∀ m, sumc sh m q ≤ m := by
  intro m
  induction m with
  | zero =>
    induction q with
    | zero => exact Nat.le_refl _
    | succ q ih => rw [sumc, cnt]; omega
  | succ m ih => rw [sumc_s]; split <;> omega
theorem sumc_mono (sh : Nat → Nat) (m : Nat) {a b : Nat} (h : a ≤ b) : sumc sh m a ≤ sumc sh m b := by
  induction b with
  | zero => rw [show a = 0 by omega]; exact Nat.le_refl _
  | succ b ih =>
    by_cases e : a = b + 1
    · rw [e]; exact Nat.le_refl _
    · have := ih (by omega)
      rw [sumc]; omega
theorem Ul_le (pa : Nat → Int32) (sh : Nat → Nat) (ns : Nat) : ∀ q p, (Ul pa sh ns q p).length + sumc sh ns p ≤ sumc sh ns (p + q) := by
  intro q
  induction q with
  | zero => intro p; rw [Ul, List.length_nil]; simp
  | succ q ih =>
    intro p
    have h1 := ih (p + 1)
    have h2 := ul_le pa sh p ns 0
    rw [Ul, List.length_append]
    rw [show p + 1 + q = p + (q + 1) by omega, sumc] at h1
    rw [cnt, Nat.zero_add] at h2
    omega
/-- the class's loose marks of one page -/
theorem x7_loose1 {N : Nat} {ns p : Nat} {sh : Nat → Nat} (hp : p < 10) (hns : ns ≤ 200) {cd pl ct sw pa : Nat → Int32} (hP : gP cd pl ct sw ns sh) (K : Sg → Option (Int32 × Sg)) : ∀ (r j u fuel : Nat) (τ : Sg), j + r = ns → τ 13 = cd → τ 15 = ct → τ 7 = pa → τ 0 15 = nI u → u + (ul pa sh p r j).length ≤ 200 → r < fuel → ∃ τ', f_X7_gatherLoose_15 N (nI p) K fuel (nI (cnt sh p j)) τ = K τ' ∧ τ' 0 15 = nI (u + (ul pa sh p r j).length) ∧ τ' 32 = wrL (τ 32) u (ul pa sh p r j) ∧ (∀ i, i ≠ 15 → τ' 0 i = τ 0 i) ∧ ∀ c, c ≠ 0 → c ≠ 32 → τ' c = τ c := by
  intro r
  induction r with
  | zero =>
    intro j u fuel τ hj h13 h15 h7 h0 hu hf
    obtain ⟨fuel, rfl⟩ : ∃ k, fuel = k + 1 := ⟨fuel - 1, by omega⟩
    refine ⟨τ, ?_, by rw [ul, List.length_nil, Nat.add_zero]; exact h0, by rw [ul, wrL_nil], fun i _ => rfl, fun c _ _ => rfl⟩
    have := cnt_le sh p ns
    rw [f_X7_gatherLoose_15, f_X3_shownBy, rdA_v p (nI (cnt sh p ns)) rfl hp (by decide) (by rw [h15]; exact hP.2.2.1 p hp), cI_eq, if_pos (nI_le (by rw [show j = ns by omega]; exact Nat.le_refl _) (by have := cnt_le sh p j; omega))]
  | succ r ih =>
    intro j u fuel τ hj h13 h15 h7 h0 hu hf
    by_cases g : sh j / 20 = p
    · obtain ⟨fuel, rfl⟩ : ∃ k, fuel = k + 1 := ⟨fuel - 1, by omega⟩
      have h1 := cnt_lt (sh := sh) (show j < ns by omega) g
      have h2 := cnt_20 hP.2.1 p
      have h3 := hP.2.2.2.1 j (by omega)
      have h4 := (hP.1 j (by omega)).2
      rw [g] at h3
      have hcs : cnt sh p (j + 1) = cnt sh p j + 1 := by rw [cnt, if_pos g]
      rw [f_X7_gatherLoose_15, f_X3_shownBy, rdA_v p (nI (cnt sh p ns)) rfl hp (by decide) (by rw [h15]; exact hP.2.2.1 p hp), cI_eq, if_neg (nI_ge h1 (by omega)), f_X3_codeAt, show (20 : Int32) = nI 20 from rfl, nI_mul, nI_add, rdA_v (20 * p + cnt sh p j) (nI (sh j)) (by rw [Nat.mul_comm]) (by omega) (by decide) (by rw [h13]; exact h3.2), cI_eq, lt_eq, h0]
      by_cases g2 : pa (60 + sh j) = -1
      · have e1 : ul pa sh p (r + 1) j = sh j :: ul pa sh p r (j + 1) := by rw [ul, if_pos (And.intro g g2)]
        rw [e1] at hu ⊢
        rw [List.length_cons] at hu
        rw [if_neg (by rw [show (200 : Int32) = nI 200 from rfl, leN (by decide) (by omega)]; omega), x6_holder h4, cI_eq, if_pos (by rw [h7]; exact g2), lt_eq, wrA_eq _ _ _ u (by exact h0) (by omega) (by decide), lt_eq, st_eq, lt_eq, nI_1, show ss τ 32 u (nI (sh j)) 0 15 = nI u from h0, nI_1]
        obtain ⟨τ', t1, t2, t3, t4, t5⟩ := ih (j + 1) (u + 1) fuel (ss (ss τ 32 u (nI (sh j))) 0 15 (nI (u + 1))) (by omega) h13 h15 h7 rfl (by omega) (by omega)
        rw [hcs] at t1
        refine ⟨τ', t1, by rw [t2, List.length_cons]; congr 1; omega, ?_, fun i hi => ?_, fun c c1 c2 => ?_⟩
        · rw [t3, ← wrL_cons]; rfl
        · rw [t4 i hi]
          show upd (τ 0) 15 (nI (u + 1)) i = _
          rw [upd_n hi]
        · rw [t5 c c1 c2, ss_c c1, ss_c c2]
      · have gg : ¬ (sh j / 20 = p ∧ pa (60 + sh j) = -1) := fun h => g2 h.2
        have e1 : ul pa sh p (r + 1) j = ul pa sh p r (j + 1) := by rw [ul, if_neg gg]
        rw [e1] at hu ⊢
        obtain ⟨τ', t1, t2⟩ := ih (j + 1) u fuel τ (by omega) h13 h15 h7 h0 hu (by omega)
        rw [hcs] at t1
        refine ⟨τ', ?_, t2⟩
        by_cases g3 : (200 : Int32) ≤ nI u
        · rw [if_pos g3, lt_eq, nI_1]; exact t1
        · rw [if_neg g3, x6_holder h4, cI_eq, if_neg (by rw [h7]; exact g2), lt_eq, nI_1]; exact t1
    · have gg : ¬ (sh j / 20 = p ∧ pa (60 + sh j) = -1) := fun h => g h.1
      have hcs : cnt sh p (j + 1) = cnt sh p j := by rw [cnt, if_neg g, Nat.add_zero]
      have e1 : ul pa sh p (r + 1) j = ul pa sh p r (j + 1) := by rw [ul, if_neg gg]
      rw [e1] at hu ⊢
      have := ih (j + 1) u fuel τ (by omega) h13 h15 h7 h0 hu (by omega)
      rw [hcs] at this
      exact this
theorem x7_loose2 {N : Nat} (hN9 : 300 ≤ N) {ns : Nat} {sh : Nat → Nat} (hns : ns ≤ 200) {cd pl ct sw pa : Nat → Int32} (hP : gP cd pl ct sw ns sh) (K : Sg → Option (Int32 × Sg)) : ∀ (q p u fuel : Nat) (τ : Sg), p + q = 10 → τ 13 = cd → τ 15 = ct → τ 7 = pa → τ 0 15 = nI u → u + (Ul pa sh ns q p).length ≤ 200 → q < fuel → ∃ τ', f_X7_gatherLoose_7 N K fuel (nI p) τ = K τ' ∧ τ' 0 15 = nI (u + (Ul pa sh ns q p).length) ∧ τ' 32 = wrL (τ 32) u (Ul pa sh ns q p) ∧ (∀ i, i ≠ 15 → τ' 0 i = τ 0 i) ∧ ∀ c, c ≠ 0 → c ≠ 32 → τ' c = τ c := by
  intro q
  induction q with
  | zero =>
    intro p u fuel τ hp h13 h15 h7 h0 hu hf
    obtain ⟨fuel, rfl⟩ : ∃ k, fuel = k + 1 := ⟨fuel - 1, by omega⟩
    refine ⟨τ, ?_, by rw [Ul, List.length_nil, Nat.add_zero]; exact h0, by rw [Ul, wrL_nil], fun i _ => rfl, fun c _ _ => rfl⟩
    rw [f_X7_gatherLoose_7, if_pos (by rw [show p = 10 by omega]; decide)]
  | succ q ih =>
    intro p u fuel τ hp h13 h15 h7 h0 hu hf
    obtain ⟨fuel, rfl⟩ : ∃ k, fuel = k + 1 := ⟨fuel - 1, by omega⟩
    rw [Ul, List.length_append] at hu
    obtain ⟨τ1, s1, s2, s3, s4, s5⟩ := x7_loose1 (N := N) (p := p) (by omega) hns hP (pa := pa) (fun σ20 => lt (nI p + 1) (fun v21 => f_X7_gatherLoose_7 N K fuel v21 σ20)) ns 0 u N τ (by omega) h13 h15 h7 h0 (by omega) (by omega)
    obtain ⟨τ', t1, t2, t3, t4, t5⟩ := ih (p + 1) (u + (ul pa sh p ns 0).length) fuel τ1 (by omega) (by rw [s5 13 (by decide) (by decide)]; exact h13) (by rw [s5 15 (by decide) (by decide)]; exact h15) (by rw [s5 7 (by decide) (by decide)]; exact h7) s2 (by omega) (by omega)
    refine ⟨τ', ?_, by rw [t2, Ul, List.length_append]; congr 1; omega, by rw [t3, s3, Ul, wrL_app], fun i hi => by rw [t4 i hi, s4 i hi], fun c c1 c2 => by rw [t5 c c1 c2, s5 c c1 c2]⟩
    rw [f_X7_gatherLoose_7, if_neg (by rw [show (10 : Int32) = nI 10 from rfl, leN (by decide) (by omega)]; omega)]
    rw [cnt, nI_0] at s1
    rw [s1, lt_eq, nI_1]
    exact t1
theorem x7_loose {N : Nat} (hN9 : 300 ≤ N) {ns : Nat} {sh : Nat → Nat} (hns : ns ≤ 200) {σ : Sg} {sw : Nat → Int32} (hP : gP (σ 13) (σ 14) (σ 15) sw ns sh) : ∃ τ', f_X7_gatherLoose N σ = some (0, τ') ∧ τ' 0 15 = nI (Ul (σ 7) sh ns 10 0).length ∧ τ' 32 = wrL (σ 32) 0 (Ul (σ 7) sh ns 10 0) ∧ (∀ i, i ≠ 15 → τ' 0 i = σ 0 i) ∧ ∀ c, c ≠ 0 → c ≠ 32 → τ' c = σ c := by
  have hl := Ul_le (σ 7) sh ns 10 0
  have hl2 := sumc_le sh 10 ns
  rw [Nat.zero_add] at hl
  obtain ⟨τ', t1, t2, t3, t4, t5⟩ := x7_loose2 hN9 hns hP (pa := σ 7) (fun σ22 => some (0, σ22)) 10 0 0 N (ss σ 0 15 0) (by omega) rfl rfl rfl rfl (by omega) (by omega)
  refine ⟨τ', ?_, by rw [t2, Nat.zero_add], t3, fun i hi => ?_, fun c c1 c2 => by rw [t5 c c1 c2, ss_c c1]⟩
  · rw [f_X7_gatherLoose, st_eq]
    rw [nI_0] at t1
    exact t1
  · rw [t4 i hi]
    show upd (σ 0) 15 0 i = _
    rw [upd_n hi]
