theorem sorted_ext : ∀ (l1 l2 : List Nat), l1.Pairwise (· < ·) → l2.Pairwise (· < ·) → (∀ x, x ∈ l1 ↔ x ∈ l2) → l1 = l2 := by
  intro l1
  induction l1 with
  | nil =>
    intro l2 _ _ h
    cases l2 with
    | nil => rfl
    | cons y l2 => exact absurd ((h y).mpr (List.mem_cons_self ..)) (by simp)
  | cons x l1 ih =>
    intro l2 h1 h2 h
    cases l2 with
    | nil => exact absurd ((h x).mp (List.mem_cons_self ..)) (by simp)
    | cons y l2 =>
      obtain ⟨a1, a2⟩ := List.pairwise_cons.mp h1
      obtain ⟨b1, b2⟩ := List.pairwise_cons.mp h2
      have hxy : x = y := by
        rcases List.mem_cons.mp ((h x).mp (List.mem_cons_self ..)) with e | e
        · exact e
        · rcases List.mem_cons.mp ((h y).mpr (List.mem_cons_self ..)) with e' | e'
          · exact e'.symm
          · have := a1 y e'; have := b1 x e; omega
      subst hxy
      congr 1
      refine ih l2 a2 b2 (fun z => ⟨fun hz => ?_, fun hz => ?_⟩)
      · rcases List.mem_cons.mp ((h z).mp (List.mem_cons_of_mem _ hz)) with e | e
        · have := a1 z hz; omega
        · exact e
      · rcases List.mem_cons.mp ((h z).mpr (List.mem_cons_of_mem _ hz)) with e | e
        · have := b1 z hz; omega
        · exact e
theorem nums_mem {Q : Nat → Bool} {x : Nat} : ∀ r e, x ∈ nums Q r e ↔ (e ≤ x ∧ x < e + r ∧ Q x = true) := by
  intro r
  induction r with
  | zero => intro e; constructor
            · intro h; exact absurd h (by simp [nums])
            · intro h; omega
  | succ r ih =>
    intro e
    rw [nums]
    by_cases g : Q e = true
    · rw [if_pos g, List.mem_cons, ih (e + 1)]
      constructor
      · rintro (h | h)
        · subst h; exact ⟨by omega, by omega, g⟩
        · exact ⟨by omega, by omega, h.2.2⟩
      · intro h
        by_cases e1 : x = e
        · exact Or.inl e1
        · exact Or.inr ⟨by omega, by omega, h.2.2⟩
    · rw [if_neg g, ih (e + 1)]
      constructor
      · intro h; exact ⟨by omega, by omega, h.2.2⟩
      · intro h
        by_cases e1 : x = e
        · subst e1; exact absurd h.2.2 g
        · exact ⟨by omega, by omega, h.2.2⟩
theorem nums_lt {Q : Nat → Bool} : ∀ r e, (nums Q r e).Pairwise (· < ·) := by
  intro r
  induction r with
  | zero => intro e; exact List.Pairwise.nil
  | succ r ih =>
    intro e
    rw [nums]
    by_cases g : Q e = true
    · rw [if_pos g]
      refine List.pairwise_cons.mpr ⟨fun y hy => ?_, ih (e + 1)⟩
      have := (nums_mem r (e + 1)).mp hy
      omega
    · rw [if_neg g]; exact ih (e + 1)
theorem kq_mem {kp kn : Nat → Nat} {Q : Nat → Bool} {p x : Nat} : ∀ r j, x ∈ kq kp kn Q p r j ↔ ∃ i, j ≤ i ∧ i < j + r ∧ kp i = p ∧ kn i < 1000 ∧ Q (kn i) = true ∧ x = kn i := by
  intro r
  induction r with
  | zero => intro j; constructor
            · intro h; exact absurd h (by simp [kq])
            · rintro ⟨i, h1, h2, _⟩; omega
  | succ r ih =>
    intro j
    rw [kq]
    by_cases g : kp j = p ∧ kn j < 1000 ∧ Q (kn j) = true
    · rw [if_pos g, List.mem_cons, ih (j + 1)]
      constructor
      · rintro (h | ⟨i, h1, h2, h3⟩)
        · exact ⟨j, by omega, by omega, g.1, g.2.1, g.2.2, h⟩
        · exact ⟨i, by omega, by omega, h3⟩
      · rintro ⟨i, h1, h2, h3⟩
        by_cases e1 : i = j
        · subst e1; exact Or.inl h3.2.2.2
        · exact Or.inr ⟨i, by omega, by omega, h3⟩
    · rw [if_neg g, ih (j + 1)]
      constructor
      · rintro ⟨i, h1, h2, h3⟩; exact ⟨i, by omega, by omega, h3⟩
      · rintro ⟨i, h1, h2, h3⟩
        by_cases e1 : i = j
        · subst e1; exact absurd ⟨h3.1, h3.2.1, h3.2.2.1⟩ g
        · exact ⟨i, by omega, by omega, h3⟩
section TB
variable {σ ρ : Sg} {ne nk np nt ns nf : Nat} {kp kn sh ix : Nat → Nat} {N : Nat}
theorem kq_lt (hI : IA σ ne nk np nt ns nf kp kn sh) {Q : Nat → Bool} {p : Nat} : ∀ r j, j + r = nk → (kq kp kn Q p r j).Pairwise (· < ·) := by
  intro r
  induction r with
  | zero => intro j _; exact List.Pairwise.nil
  | succ r ih =>
    intro j hj
    rw [kq]
    by_cases g : kp j = p ∧ kn j < 1000 ∧ Q (kn j) = true
    · rw [if_pos g]
      refine List.pairwise_cons.mpr ⟨fun y hy => ?_, ih (j + 1) (by omega)⟩
      obtain ⟨i, h1, h2, h3, h4, h5, h6⟩ := (kq_mem r (j + 1)).mp hy
      rw [h6]
      exact hI.2.2.2.2.1.2.2.2.1 j i (by omega) (by omega) g.2.1 h4
    · rw [if_neg g]; exact ih (j + 1) (by omega)
theorem kq_nums (hI : IA σ ne nk np nt ns nf kp kn sh) (hTr : Tr kp kn ix nk ne) {Q : Nat → Bool} {p : Nat} (hp : p < ne) : kq kp kn Q p nk 0 = nums (inP kp ix p Q) (ne - (p + 1)) (p + 1) := by
  have h60 := ne60 hI
  refine sorted_ext _ _ (kq_lt hI nk 0 (by omega)) (nums_lt _ _) (fun x => ?_)
  rw [kq_mem, nums_mem]
  constructor
  · rintro ⟨i, h1, h2, h3, h4, h5, h6⟩
    have hr := hTr.2.1 i (by omega)
    have hix : ix x = i := by
      obtain ⟨q1, q2⟩ := hTr.2.2.2 x (by omega) (by omega)
      exact hTr.2.2.1 _ _ q1 (by omega) (by rw [q2, h6])
    refine ⟨by omega, by omega, ?_⟩
    rw [← h6] at h5
    simp [inP, hix, h3, h5]
  · rintro ⟨h1, h2, h3⟩
    obtain ⟨q1, q2, q3⟩ := Tr_pr hTr (show 1 ≤ x by omega) (by omega) h60
    simp [inP] at h3
    exact ⟨ix x, by omega, by omega, h3.1, by omega, by rw [q2]; exact h3.2, q2.symm⟩
def cellsOf (σ : Sg) (kp kn : Nat → Nat) (nk q : Nat) : List Nat := kq kp kn (cellQ σ) q nk 0
theorem cat_len (hI : IA σ ne nk np nt ns nf kp kn sh) (hTr : Tr kp kn ix nk ne) {p : Nat} : (catl (cellsOf σ kp kn nk) (kq kp kn (rowQ σ) p nk 0)).length ≤ 59 := by
  have h60 := ne60 hI
  have hmem : ∀ (R : List Nat) x, x ∈ catl (cellsOf σ kp kn nk) R → ∃ i, i < nk ∧ x = kn i ∧ kn i < 1000 ∧ kp i ∈ R := by
    intro R
    induction R with
    | nil => intro x h; exact absurd h (by simp [catl])
    | cons q R ih =>
      intro x h
      rcases List.mem_append.mp h with h | h
      · obtain ⟨i, h1, h2, h3, h4, h5, h6⟩ := (kq_mem nk 0).mp h
        exact ⟨i, by omega, h6, h4, by rw [h3]; exact List.mem_cons_self ..⟩
      · obtain ⟨i, h1, h2, h3, h4⟩ := ih x h
        exact ⟨i, h1, h2, h3, List.mem_cons_of_mem _ h4⟩
  have hnod : ∀ (R : List Nat), R.Pairwise (· < ·) → (catl (cellsOf σ kp kn nk) R).Nodup := by
    intro R
    induction R with
    | nil => intro _; exact List.nodup_nil
    | cons q R ih =>
      intro h
      obtain ⟨a1, a2⟩ := List.pairwise_cons.mp h
      refine List.pairwise_append.mpr ⟨?_, ih a2, fun x hx y hy e => ?_⟩
      · exact List.Pairwise.imp (fun h e => by omega) (kq_lt (Q := cellQ σ) (p := q) hI nk 0 (by omega))
      · obtain ⟨i, h1, h2, h3, h4, h5, h6⟩ := (kq_mem nk 0).mp hx
        obtain ⟨i', g1, g2, g3, g4⟩ := hmem R y hy
        have : i = i' := hTr.2.2.1 _ _ (by omega) g1 (by rw [← h6, ← g2, e])
        subst this
        rw [h3] at g4
        have := a1 q g4
        omega
  have hm : ∀ x, x ∈ catl (cellsOf σ kp kn nk) (kq kp kn (rowQ σ) p nk 0) → 1 ≤ x ∧ x < ne := by
    intro x hx
    obtain ⟨i, h1, h2, h3, h4⟩ := hmem _ x hx
    have := hTr.2.1 i h1
    omega
  have := pigL (m := 60) (L := 0 :: catl (cellsOf σ kp kn nk) (kq kp kn (rowQ σ) p nk 0)) (List.nodup_cons.mpr ⟨fun g => absurd (hm 0 g).1 (by omega), hnod _ (kq_lt hI nk 0 (by omega))⟩) (fun x hx => by
    rcases List.mem_cons.mp hx with g | g
    · omega
    · have := hm x g; omega)
  rw [List.length_cons] at this
  omega
theorem row_len (hI : IA σ ne nk np nt ns nf kp kn sh) (hTr : Tr kp kn ix nk ne) {p : Nat} : (kq kp kn (rowQ σ) p nk 0).length ≤ 60 := by
  have h60 := ne60 hI
  refine pigL (List.Pairwise.imp (fun h e => by omega) (kq_lt (Q := rowQ σ) (p := p) hI nk 0 (by omega))) (fun x hx => ?_)
  obtain ⟨i, h1, h2, h3, h4, h5, h6⟩ := (kq_mem nk 0).mp hx
  have := hTr.2.1 i (by omega)
  omega
/-- a table's answer -/
def TU (σ : Sg) (kp kn : Nat → Nat) (nk p : Nat) : Bool := ((kq kp kn (rowQ σ) p nk 0).foldl (rowst (rrN σ) (ccN σ) (cellsOf σ kp kn nk)) (fun _ => 0, 0, 0, false)).2.2.2
theorem r_clear {a : Int32} (K : Sg → Option (Int32 × Sg)) : ∀ (n x fuel : Nat) (τ : Sg), x + n = 500 → (∀ i, i < x → τ 56 i = nI 0) → n < fuel → ∃ τ', f_X8_isUneven_2 N a K fuel (nI x) τ = K τ' ∧ GR τ' (fun _ => 0) ∧ ∀ c, c ≠ 56 → τ' c = τ c := by
  intro n
  induction n with
  | zero =>
    intro x fuel τ hx h hf
    obtain ⟨fuel, rfl⟩ : ∃ k, fuel = k + 1 := ⟨fuel - 1, by omega⟩
    refine ⟨τ, ?_, fun i hi => h i (by omega), fun c _ => rfl⟩
    rw [f_X8_isUneven_2, if_pos (by rw [show x = 500 by omega]; decide)]
  | succ n ih =>
    intro x fuel τ hx h hf
    obtain ⟨fuel, rfl⟩ : ∃ k, fuel = k + 1 := ⟨fuel - 1, by omega⟩
    obtain ⟨τ', t1, t2, t3⟩ := ih (x + 1) fuel (ss τ 56 x 0) (by omega) (fun i hi => by
      show upd (τ 56) x 0 i = _
      by_cases e : i = x
      · subst e; rw [upd_s]; rfl
      · rw [upd_n e]; exact h i (by omega)) (by omega)
    refine ⟨τ', ?_, t2, fun c hc => by rw [t3 c hc, ss_c hc]⟩
    rw [f_X8_isUneven_2, if_neg (by rw [show (500 : Int32) = nI 500 from rfl, leN (by decide) (by omega)]; omega), wrA_eq _ _ _ x rfl (by omega) (by decide), lt_eq, nI_1]
    exact t1
theorem GZ_0 : GZ (fun _ => 0) 0 0 0 := ⟨fun _ => Nat.zero_le _, fun _ _ => rfl, by omega⟩
theorem r_uneven (hI : IA σ ne nk np nt ns nf kp kn sh) (hTr : Tr kp kn ix nk ne) (hB : RB σ ρ) (hN9 : 1000 ≤ N) {τ : Sg} (hA : AgR ρ τ) {p : Nat} (hp : p < ne) : ∃ τ', f_X8_isUneven N (nI p) τ = some (bI (TU σ kp kn nk p), τ') ∧ ∀ c, c ≠ 56 → τ' c = τ c := by
  have h60 := ne60 hI
  obtain ⟨τ1, a1, a2, a3⟩ := r_clear (N := N) (a := nI p) (fun σ4 => cI (f_X8_nextKid N (nI p) 0 σ4) (fun v5 σ6 => f_X8_isUneven_37 N (nI p) (fun v49 σ50 => gd (v49 = 0 ∨ v49 = 1) (some (v49, σ50))) N 0 0 0 v5 σ6)) 500 0 N τ (by omega) (fun i hi => absurd hi (by omega)) (by omega)
  have hA1 := agR_56 hA a3
  obtain ⟨b1, b2, b3, b4⟩ := rb_K hI hB hA1
  obtain ⟨τ2, c1, c2⟩ := r_rows (N := N) (cells := cellsOf σ kp kn nk) hI hB (by omega) hp (fun q _ => rfl) (fun v49 σ50 => gd (v49 = 0 ∨ v49 = 1) (some (v49, σ50))) nk 0 N 0 0 0 0 (fun _ => 0) false τ1 (by omega) hA1 a2 GZ_0 (by have := cat_len (p := p) hI hTr; omega) (by have := row_len (p := p) hI hTr; omega) (by omega) (by omega)
  refine ⟨τ2, ?_, fun c hc => by rw [c2 c hc, a3 c hc]⟩
  rw [nI_0] at a1
  rw [f_X8_isUneven, a1]
  have hnx := x8_nextKid (N := N) (by omega) b1 b3 h60 b2 hp (j := 0) (by omega)
  rw [nI_0] at hnx
  rw [hnx, cI_eq]
  rw [nI_0] at c1
  refine Eq.trans c1 ?_
  show gd (bI (TU σ kp kn nk p) = 0 ∨ bI (TU σ kp kn nk p) = 1) (some (bI (TU σ kp kn nk p), τ2)) = _
  rw [gd_eq]
  cases TU σ kp kn nk p
  · exact Or.inl rfl
  · exact Or.inr rfl
theorem c_clear (K : Sg → Option (Int32 × Sg)) : ∀ (n x fuel : Nat) (τ : Sg), x + n = 480 → (∀ i, i < x → τ 21 i = nI 0) → n < fuel → ∃ τ', f_J7_fill_21_5 N 0 480 K fuel (nI x) τ = K τ' ∧ (∀ i, i < 480 → τ' 21 i = nI 0) ∧ ∀ c, c ≠ 21 → τ' c = τ c := by
  intro n
  induction n with
  | zero =>
    intro x fuel τ hx h hf
    obtain ⟨fuel, rfl⟩ : ∃ k, fuel = k + 1 := ⟨fuel - 1, by omega⟩
    refine ⟨τ, ?_, fun i hi => h i (by omega), fun c _ => rfl⟩
    rw [f_J7_fill_21_5, if_pos (by rw [show x = 480 by omega]; decide)]
  | succ n ih =>
    intro x fuel τ hx h hf
    obtain ⟨fuel, rfl⟩ : ∃ k, fuel = k + 1 := ⟨fuel - 1, by omega⟩
    obtain ⟨τ', t1, t2, t3⟩ := ih (x + 1) fuel (ss τ 21 x 0) (by omega) (fun i hi => by
      show upd (τ 21) x 0 i = _
      by_cases e : i = x
      · subst e; rw [upd_s]; rfl
      · rw [upd_n e]; exact h i (by omega)) (by omega)
    refine ⟨τ', ?_, t2, fun c hc => by rw [t3 c hc, ss_c hc]⟩
    rw [f_J7_fill_21_5, if_neg (by rw [show (480 : Int32) = nI 480 from rfl, leN (by decide) (by omega)]; omega), wrA_eq _ _ _ x rfl (by omega) (by decide), lt_eq, nI_1]
    exact t1
theorem c_rows (hI : IA σ ne nk np nt ns nf kp kn sh) (hTr : Tr kp kn ix nk ne) (hN9 : 600 ≤ N) {p : Nat} (hp : p < ne) {cells : Nat → List Nat} (hcl : ∀ q, q < ne → cells q = nums (inP kp ix q (cellQ σ)) (ne - (q + 1)) (q + 1)) (K : Sg → Option (Int32 × Sg)) : ∀ (r e fuel m us row w : Nat) (f : Nat → Nat) (u : Bool) (τ : Sg), e + r = ne → 1 ≤ e → AgC σ τ → GC (ss τ 20 3 0) f row 0 us u (wI row w) → GZ f row us m → m + (catl cells (nums (inP kp ix p (rowQ σ)) r e)).length ≤ 59 → row + (nums (inP kp ix p (rowQ σ)) r e).length ≤ 60 → w ≤ 500 → r < fuel → ∃ τ', f_X7_isUneven_11 N (nI p) K fuel (nI e) τ = K τ' ∧ τ' 20 5 = bI ((nums (inP kp ix p (rowQ σ)) r e).foldl (rowst (rrN σ) (ccN σ) cells) (f, row, w, u)).2.2.2 ∧ ∀ c, c ≠ 20 → c ≠ 21 → τ' c = τ c := by
  have h60 := ne60 hI
  intro r
  induction r with
  | zero =>
    intro e fuel m us row w f u τ he h1 hA hG hZ hm hrw hw hf
    obtain ⟨fuel, rfl⟩ : ∃ k, fuel = k + 1 := ⟨fuel - 1, by omega⟩
    refine ⟨τ, ?_, hG.2.2.2.2.1, fun c _ _ => rfl⟩
    rw [f_X7_isUneven_11, lt_eq, ag_ne hI hA, if_pos (nI_le (by omega) (by omega))]
  | succ r ih =>
    intro e fuel m us row w f u τ he h1 hA hG hZ hm hrw hw hf
    obtain ⟨fuel, rfl⟩ : ∃ k, fuel = k + 1 := ⟨fuel - 1, by omega⟩
    obtain ⟨a1, a2⟩ := ag_par (N := N) hI hTr hA h1 (show e < ne by omega)
    rw [f_X7_isUneven_11, lt_eq, ag_ne hI hA, if_neg (nI_ge (by omega) (by omega)), a1, cI_eq]
    by_cases g : kp (ix e) = p
    · rw [if_pos (by rw [g]), ag_std hI (by omega) hA (show e < ne by omega), cI_eq]
      by_cases g2 : sS σ e = 7
      · have e1 : nums (inP kp ix p (rowQ σ)) (r + 1) e = e :: nums (inP kp ix p (rowQ σ)) r (e + 1) := by rw [nums, if_pos (by simp [inP, rowQ, g, g2])]
        rw [e1] at hm hrw ⊢
        rw [catl, List.length_append] at hm
        rw [List.length_cons] at hrw
        have hc0 := hcl e (by omega)
        rw [if_pos g2, f_X1_beginRow, st_eq, cI_eq, f_X7_layCells, lt_eq, nI_1]
        obtain ⟨τ1, us1, c1, c2, c3, c4⟩ := c_cells (N := N) (p := e) (row := row) (w := wI row w) (u0 := u) hI hTr hN9 (by omega) (by omega) (fun σ19 => some (0, σ19)) (ne - (e + 1)) (e + 1) N m 0 us f false (ss τ 20 3 0) (by omega) (by omega) (ag_20 hA (fun c d1 d2 => ss_c d1)) ⟨hG.1, hG.2.1, rfl, hG.2.2.2.1, by rw [Bool.or_false]; exact hG.2.2.2.2.1, hG.2.2.2.2.2⟩ hZ (by omega) (by rw [← hc0]; omega) (by omega)
        rw [← hc0] at c2 c3
        obtain ⟨G, hGd⟩ : ∃ G, G = (cells e).foldl (lay1 (rrN σ) (ccN σ) row) (f, 0, false) := ⟨_, rfl⟩
        rw [← hGd] at c2 c3
        have h9 : us1 ≤ 480 := by have := c3.2.2; omega
        have hew : endw G.1 row us1 = endw G.1 row 480 := (endw_up (fun y hy => by rw [c3.2.1 y hy]; omega) 480 h9).symm
        have hel := endw_le (f := G.1) (row := row) 480
        obtain ⟨τ2, d1, d2, d3⟩ := c_endRow (N := N) hN9 c3.1 (by omega) h9 hw c2
        rw [hew] at d2
        have hA2 : AgC σ τ2 := ag_20 (ag_20 (ag_20 hA (fun c d1 d2 => ss_c (x := 0) (i := 3) (σ := τ) d1)) c4) (fun c x1 _ => d3 c x1)
        rw [c1, cI_eq, d1, cI_eq, lt_eq]
        obtain ⟨τ', t1, t2, t3⟩ := ih (e + 1) fuel (m + (cells e).length) us1 (row + 1) (endw G.1 row 480) G.1 _ τ2 (by omega) (by omega) hA2 ⟨d2.1, d2.2.1, rfl, d2.2.2.2.1, d2.2.2.2.2.1, d2.2.2.2.2.2⟩ (GZ_row c3) (by omega) (by omega) (by omega) (by omega)
        refine ⟨τ', t1, ?_, fun c x1 x2 => by rw [t3 c x1 x2, d3 c x1, c4 c x1 x2, ss_c x1]⟩
        rw [t2, List.foldl_cons]
        have : rowst (rrN σ) (ccN σ) cells (f, row, w, u) e = (G.1, row + 1, endw G.1 row 480, (u || G.2.2) || (row != 0 && endw G.1 row 480 != w)) := by
          unfold rowst
          rw [← hGd]
        rw [this]
      · have e1 : nums (inP kp ix p (rowQ σ)) (r + 1) e = nums (inP kp ix p (rowQ σ)) r (e + 1) := by rw [nums, if_neg (by simp [inP, rowQ, g2])]
        rw [e1] at hm hrw ⊢
        rw [if_neg g2, lt_eq, nI_1]
        exact ih (e + 1) fuel m us row w f u τ (by omega) (by omega) hA hG hZ hm hrw hw (by omega)
    · have e1 : nums (inP kp ix p (rowQ σ)) (r + 1) e = nums (inP kp ix p (rowQ σ)) r (e + 1) := by rw [nums, if_neg (by simp [inP, g])]
      rw [e1] at hm hrw ⊢
      rw [if_neg (by rw [eqN (by omega) (by omega)]; exact g), lt_eq, nI_1]
      exact ih (e + 1) fuel m us row w f u τ (by omega) (by omega) hA hG hZ hm hrw hw (by omega)
theorem c_uneven (hI : IA σ ne nk np nt ns nf kp kn sh) (hTr : Tr kp kn ix nk ne) (hN9 : 1000 ≤ N) {τ : Sg} (hA : AgC σ τ) {p : Nat} (hp : p < ne) : ∃ τ', f_X7_isUneven N (nI p) τ = some (bI (TU σ kp kn nk p), τ') ∧ ∀ c, c ≠ 20 → c ≠ 21 → τ' c = τ c := by
  have h60 := ne60 hI
  obtain ⟨τ1, a1, a2, a3⟩ := c_clear (N := N) (fun σ4 => some (0, σ4)) 480 0 N τ (by omega) (fun i hi => absurd hi (by omega)) (by omega)
  obtain ⟨τ2, b1, b2, b3⟩ := c_rows (N := N) (cells := cellsOf σ kp kn nk) hI hTr (by omega) hp (fun q hq => kq_nums hI hTr hq) (fun σ21 => lt (σ21 20 5) (fun v22 => gd (v22 = 0 ∨ v22 = 1) (some (v22, σ21)))) (ne - (p + 1)) (p + 1) N 0 0 0 0 (fun _ => 0) false (ss (ss (ss (ss τ1 20 1 0) 20 2 0) 20 4 (-1)) 20 5 0) (by omega) (by omega) (ag_20 hA (fun c c1 c2 => by rw [ss_c c1, ss_c c1, ss_c c1, ss_c c1, a3 c c2])) ⟨fun i hi => a2 i hi, rfl, rfl, rfl, rfl, rfl⟩ GZ_0 (by rw [← kq_nums hI hTr hp]; have := cat_len (p := p) hI hTr; omega) (by rw [← kq_nums hI hTr hp]; have := row_len (p := p) hI hTr; omega) (by omega) (by omega)
  rw [← kq_nums hI hTr hp] at b2
  refine ⟨τ2, ?_, fun c c1 c2 => by rw [b3 c c1 c2, ss_c c1, ss_c c1, ss_c c1, ss_c c1, a3 c c2]⟩
  rw [nI_0] at a1
  rw [f_X7_isUneven, f_X1_clear, f_J7_fill_21, a1, cI_eq, st_eq, st_eq, st_eq, st_eq, cI_eq, lt_eq, nI_1, b1, lt_eq, b2]
  show gd (bI (TU σ kp kn nk p) = 0 ∨ bI (TU σ kp kn nk p) = 1) (some (bI (TU σ kp kn nk p), τ2)) = _
  rw [gd_eq]
  cases TU σ kp kn nk p
  · exact Or.inl rfl
  · exact Or.inr rfl
end TB
