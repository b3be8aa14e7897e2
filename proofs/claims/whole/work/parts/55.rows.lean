theorem nxt_hit {kp : Nat → Nat} {nk p j : Nat} (hj : j < nk) (h : kp j = p) : nxt kp nk p j = j := by
  unfold nxt
  rw [show nk - j = (nk - (j + 1)) + 1 by omega, nx, if_pos hj, if_pos h]
theorem nxt_miss {kp : Nat → Nat} {nk p j : Nat} (hj : j < nk) (h : kp j ≠ p) : nxt kp nk p j = nxt kp nk p (j + 1) := by
  unfold nxt
  rw [show nk - j = (nk - (j + 1)) + 1 by omega, nx, if_pos hj, if_neg h]
theorem nxt_end {kp : Nat → Nat} {nk p : Nat} : nxt kp nk p nk = nk := by
  unfold nxt
  rw [Nat.sub_self, nx]
def rowst (rr cc : Nat → Nat) (cells : Nat → List Nat) (st : (Nat → Nat) × Nat × Nat × Bool) (r : Nat) : (Nat → Nat) × Nat × Nat × Bool :=
  (((cells r).foldl (lay1 rr cc st.2.1) (st.1, 0, false)).1, st.2.1 + 1, endw ((cells r).foldl (lay1 rr cc st.2.1) (st.1, 0, false)).1 st.2.1 480, (st.2.2.2 || ((cells r).foldl (lay1 rr cc st.2.1) (st.1, 0, false)).2.2) || (st.2.1 != 0 && endw ((cells r).foldl (lay1 rr cc st.2.1) (st.1, 0, false)).1 st.2.1 480 != st.2.2.1))
theorem endw_up {f : Nat → Nat} {row us : Nat} (h : ∀ y, us ≤ y → f y ≤ row) : ∀ n, us ≤ n → endw f row n = endw f row us := by
  intro n
  induction n with
  | zero => intro h1; rw [show us = 0 by omega]
  | succ n ih =>
    intro h1
    by_cases e : us = n + 1
    · rw [e]
    · rw [endw, if_neg (by have := h n (by omega); omega)]
      exact ih (by omega)
theorem endw_le {f : Nat → Nat} {row : Nat} : ∀ n, endw f row n ≤ n := by
  intro n
  induction n with
  | zero => exact Nat.le_refl _
  | succ n ih =>
    rw [endw]
    by_cases g : row < f n
    · rw [if_pos g]; omega
    · rw [if_neg g]; omega
section RW
variable {σ ρ : Sg} {ne nk np nt ns nf : Nat} {kp kn sh ix : Nat → Nat} {N : Nat}
theorem r_isCell (hI : IA σ ne nk np nt ns nf kp kn sh) (hB : RB σ ρ) (hN9 : 600 ≤ N) {τ : Sg} (hA : AgR ρ τ) {e : Nat} (he : e < 60) : f_X8_isCell N (nI e) τ = some (if cellQ σ e = true then 1 else 0, τ) := by
  rw [f_X8_isCell, r_is hI hB (by omega) hA he, cI_eq]
  by_cases g8 : sS σ e = 8
  · rw [if_pos g8, if_neg (by decide), if_pos (by simp [cellQ, g8])]
  · rw [if_neg g8, if_pos rfl, r_is hI hB (by omega) hA he, cI_eq]
    by_cases g9 : sS σ e = 9
    · rw [if_pos g9, if_neg (by decide), if_pos (by simp [cellQ, g9])]
    · rw [if_neg g9, if_pos rfl, if_neg (by simp [cellQ, g8, g9])]
theorem rb_K (hI : IA σ ne nk np nt ns nf kp kn sh) (hB : RB σ ρ) {τ : Sg} (hA : AgR ρ τ) : τ 35 8 = nI nk ∧ gK (τ 42) (τ 43) ne nk kp kn ∧ nk ≤ 160 ∧ τ 35 1 = nI ne := by
  have n17 := hI.1.2.2.2.2.2.2.2.2.2.2.2
  refine ⟨?_, ?_, by omega, ?_⟩
  · rw [rb_i hB hA (by decide) (by decide) (by decide) (by decide)]; exact hI.1.2.2.2.2.2.2.1
  · rw [rb_c hB hA (c := 42) (by decide) (by decide), rb_c hB hA (c := 43) (by decide) (by decide)]; exact hI.2.2.2.2.1
  · rw [rb_i hB hA (by decide) (by decide) (by decide) (by decide)]; exact hI.1.2.1
theorem agR_56 {τ τ' : Sg} (hA : AgR ρ τ) (h : ∀ c, c ≠ 56 → τ' c = τ c) : AgR ρ τ' :=
  ⟨fun c hc => by rw [h c (by rintro rfl; exact absurd hc (by decide)), hA.1 c hc], fun i hi => by rw [h 35 (by decide)]; exact hA.2 i hi⟩
theorem r_cells (hI : IA σ ne nk np nt ns nf kp kn sh) (hB : RB σ ρ) (hN9 : 600 ≤ N) {p row : Nat} (hp : p < ne) (hrow : row ≤ 60) (K : Int32 → Sg → Option (Int32 × Sg)) : ∀ (r j fuel m x us : Nat) (f : Nat → Nat) (u : Bool) (τ : Sg), j + r = nk → AgR ρ τ → GR τ f → GZ f row us m → x ≤ us → m + (kq kp kn (cellQ σ) p r j).length ≤ 59 → r < fuel → ∃ τ', f_X8_lay_13 N (nI p) (nI row) K fuel (bI u) (nI x) (nI (nxt kp nk p j)) τ = K (bI ((kq kp kn (cellQ σ) p r j).foldl (lay1 (rrN σ) (ccN σ) row) (f, x, u)).2.2) τ' ∧ GR τ' ((kq kp kn (cellQ σ) p r j).foldl (lay1 (rrN σ) (ccN σ) row) (f, x, u)).1 ∧ (∃ us', GZ ((kq kp kn (cellQ σ) p r j).foldl (lay1 (rrN σ) (ccN σ) row) (f, x, u)).1 row us' (m + (kq kp kn (cellQ σ) p r j).length)) ∧ ∀ c, c ≠ 56 → τ' c = τ c := by
  have h60 := ne60 hI
  intro r
  induction r with
  | zero =>
    intro j fuel m x us f u τ hj hA hG hZ hx hm hf
    obtain ⟨fuel, rfl⟩ : ∃ k, fuel = k + 1 := ⟨fuel - 1, by omega⟩
    obtain ⟨b1, b2, b3, b4⟩ := rb_K hI hB hA
    refine ⟨τ, ?_, hG, ⟨us, hZ⟩, fun c _ => rfl⟩
    rw [show j = nk by omega, nxt_end, f_X8_lay_13, lt_eq, b1, if_pos (nI_le (Nat.le_refl _) (by omega))]
    rfl
  | succ r ih =>
    intro j fuel m x us f u τ hj hA hG hZ hx hm hf
    obtain ⟨b1, b2, b3, b4⟩ := rb_K hI hB hA
    by_cases g : kp j = p
    · obtain ⟨fuel, rfl⟩ : ∃ k, fuel = k + 1 := ⟨fuel - 1, by omega⟩
      have hk := b2.1 j (by omega)
      have hr := b2.2.1 j (by omega)
      rw [nxt_hit (by omega) g, f_X8_lay_13, lt_eq, b1, if_neg (nI_ge (by omega) (by omega)), rdA_v j (nI (kn j)) rfl (by omega) (by decide) hk.2.1]
      by_cases g1 : kn j < 1000
      · have hkn : kn j < 60 := by omega
        rw [if_neg (by rw [show (1000 : Int32) = nI 1000 from rfl, leN (by decide) (by omega)]; omega), rdA_v j (nI (kn j)) rfl (by omega) (by decide) hk.2.1, r_isCell hI hB hN9 hA hkn, cI_eq]
        by_cases g2 : cellQ σ (kn j) = true
        · have e1 : kq kp kn (cellQ σ) p (r + 1) j = kn j :: kq kp kn (cellQ σ) p r (j + 1) := by rw [kq, if_pos (And.intro g (And.intro g1 g2))]
          obtain ⟨s1, s2, s3, s4⟩ := rr_ok hI hkn
          rw [e1] at hm ⊢
          rw [List.length_cons] at hm
          obtain ⟨z1, z2⟩ := GZ_lay (u := u) hZ s2 s4 hx (by omega)
          have hus := hZ.2.2
          rw [if_pos g2, if_neg (by decide), r_skp hZ.1 (by omega) _ hG (480 - x) x N (by omega) (by omega) (by omega)]
          obtain ⟨τ1, c1, c2, c3⟩ := rf_put (N := N) (a := nI p) (row := row) (rr := rrN σ (kn j)) (cc := ccN σ (kn j)) (j := j) (e := kn j) s2 (by omega) s4 (by omega) hkn (fun v62 v63 σ64 => cI (f_X8_nextKid N (nI p) (nI j + 1) σ64) (fun v65 σ66 => f_X8_lay_13 N (nI p) (nI row) K fuel v62 v63 v65 σ66)) (ccN σ (kn j)) 0 (skp f row (480 - x) x) N f u τ (by omega) (by omega) hZ.1 hG hk.2.1 (by rw [rb_c hB hA (c := 39) (by decide) (by decide)]; exact s1) (by rw [rb_c hB hA (c := 40) (by decide) (by decide)]; exact s3) (by omega)
          rw [nI_0] at c1
          have hA1 := agR_56 hA c3
          obtain ⟨d1, d2, d3, d4⟩ := rb_K hI hB hA1
          rw [c1, nI_1, x8_nextKid (by omega) d1 d3 h60 d2 hp (by omega), cI_eq]
          obtain ⟨τ', t1, t2, t3, t4⟩ := ih (j + 1) fuel (m + 1) (skp f row (480 - x) x + ccN σ (kn j)) (max us (skp f row (480 - x) x + ccN σ (kn j))) (put row (rrN σ (kn j)) (ccN σ (kn j)) f (skp f row (480 - x) x) u).1 (put row (rrN σ (kn j)) (ccN σ (kn j)) f (skp f row (480 - x) x) u).2 τ1 (by omega) hA1 c2 z1 (by omega) (by omega) (by omega)
          refine ⟨τ', t1, t2, ?_, fun c hc => by rw [t4 c hc, c3 c hc]⟩
          rw [List.length_cons, show m + ((kq kp kn (cellQ σ) p r (j + 1)).length + 1) = m + 1 + (kq kp kn (cellQ σ) p r (j + 1)).length by omega]
          exact t3
        · have e1 : kq kp kn (cellQ σ) p (r + 1) j = kq kp kn (cellQ σ) p r (j + 1) := by rw [kq, if_neg (fun h => g2 h.2.2)]
          rw [e1] at hm ⊢
          rw [if_neg g2, if_pos rfl, nI_1, x8_nextKid (by omega) b1 b3 h60 b2 hp (by omega), cI_eq]
          exact ih (j + 1) fuel m x us f u τ (by omega) hA hG hZ hx hm (by omega)
      · have e1 : kq kp kn (cellQ σ) p (r + 1) j = kq kp kn (cellQ σ) p r (j + 1) := by rw [kq, if_neg (fun h => g1 h.2.1)]
        rw [e1] at hm ⊢
        rw [if_pos (by rw [show (1000 : Int32) = nI 1000 from rfl, leN (by decide) (by omega)]; omega), nI_1, x8_nextKid (by omega) b1 b3 h60 b2 hp (by omega), cI_eq]
        exact ih (j + 1) fuel m x us f u τ (by omega) hA hG hZ hx hm (by omega)
    · have e1 : kq kp kn (cellQ σ) p (r + 1) j = kq kp kn (cellQ σ) p r (j + 1) := by rw [kq, if_neg (fun h => g h.1)]
      rw [e1] at hm ⊢
      rw [nxt_miss (by omega) g]
      exact ih (j + 1) fuel m x us f u τ (by omega) hA hG hZ hx hm (by omega)
theorem r_scan {a b d e g : Int32} {f : Nat → Nat} {row : Nat} (hf : ∀ i, f i ≤ row + 8) (hrow : row ≤ 100) (K : Int32 → Sg → Option (Int32 × Sg)) {τ : Sg} (hG : GR τ f) : ∀ (n x fuel : Nat), x + n = 500 → n < fuel → f_X8_isUneven_95 N a b (nI row) d e g K fuel (nI (endw f row x)) (nI x) τ = K (nI (endw f row 500)) τ := by
  intro n
  induction n with
  | zero =>
    intro x fuel hx hfu
    obtain ⟨fuel, rfl⟩ : ∃ k, fuel = k + 1 := ⟨fuel - 1, by omega⟩
    rw [show x = 500 by omega, f_X8_isUneven_95, if_pos (by decide)]
  | succ n ih =>
    intro x fuel hx hfu
    obtain ⟨fuel, rfl⟩ : ∃ k, fuel = k + 1 := ⟨fuel - 1, by omega⟩
    have h1 := hf x
    rw [f_X8_isUneven_95, if_neg (by rw [show (500 : Int32) = nI 500 from rfl, leN (by decide) (by omega)]; omega), rdA_v x (nI (f x)) rfl (by omega) (by decide) (hG x (by omega))]
    have := ih (x + 1) fuel (by omega) (by omega)
    rw [endw] at this
    by_cases g9 : row < f x
    · rw [if_pos g9] at this
      rw [if_neg (nI_ge (by omega) (by omega)), lt_eq, lt_eq, nI_1]; exact this
    · rw [if_neg g9] at this
      rw [if_pos (nI_le (by omega) (by omega)), lt_eq, nI_1]; exact this
def catl (cells : Nat → List Nat) : List Nat → List Nat
  | [] => []
  | r :: R => cells r ++ catl cells R
def rowQ (σ : Sg) (e : Nat) : Bool := sS σ e == 7
theorem GZ_row {f : Nat → Nat} {row us m : Nat} (h : GZ f row us m) : GZ f (row + 1) us m := ⟨fun i => by have := h.1 i; omega, h.2.1, h.2.2⟩
theorem r_rows (hI : IA σ ne nk np nt ns nf kp kn sh) (hB : RB σ ρ) (hN9 : 600 ≤ N) {p : Nat} (hp : p < ne) {cells : Nat → List Nat} (hcl : ∀ q, q < ne → cells q = kq kp kn (cellQ σ) q nk 0) (K : Int32 → Sg → Option (Int32 × Sg)) : ∀ (r j fuel m us row w : Nat) (f : Nat → Nat) (u : Bool) (τ : Sg), j + r = nk → AgR ρ τ → GR τ f → GZ f row us m → m + (catl cells (kq kp kn (rowQ σ) p r j)).length ≤ 59 → row + (kq kp kn (rowQ σ) p r j).length ≤ 60 → w ≤ 500 → r < fuel → ∃ τ', f_X8_isUneven_37 N (nI p) K fuel (bI u) (nI row) (nI w) (nI (nxt kp nk p j)) τ = K (bI ((kq kp kn (rowQ σ) p r j).foldl (rowst (rrN σ) (ccN σ) cells) (f, row, w, u)).2.2.2) τ' ∧ ∀ c, c ≠ 56 → τ' c = τ c := by
  have h60 := ne60 hI
  intro r
  induction r with
  | zero =>
    intro j fuel m us row w f u τ hj hA hG hZ hm hrw hw hf
    obtain ⟨fuel, rfl⟩ : ∃ k, fuel = k + 1 := ⟨fuel - 1, by omega⟩
    obtain ⟨b1, b2, b3, b4⟩ := rb_K hI hB hA
    refine ⟨τ, ?_, fun c _ => rfl⟩
    rw [show j = nk by omega, nxt_end, f_X8_isUneven_37, lt_eq, b1, if_pos (nI_le (Nat.le_refl _) (by omega))]
    rfl
  | succ r ih =>
    intro j fuel m us row w f u τ hj hA hG hZ hm hrw hw hf
    obtain ⟨b1, b2, b3, b4⟩ := rb_K hI hB hA
    by_cases g : kp j = p
    · obtain ⟨fuel, rfl⟩ : ∃ k, fuel = k + 1 := ⟨fuel - 1, by omega⟩
      have hk := b2.1 j (by omega)
      have hr := b2.2.1 j (by omega)
      rw [nxt_hit (by omega) g, f_X8_isUneven_37, lt_eq, b1, if_neg (nI_ge (by omega) (by omega)), rdA_v j (nI (kn j)) rfl (by omega) (by decide) hk.2.1]
      by_cases g1 : kn j < 1000
      · have hkn : kn j < ne := by omega
        rw [if_neg (by rw [show (1000 : Int32) = nI 1000 from rfl, leN (by decide) (by omega)]; omega), rdA_v j (nI (kn j)) rfl (by omega) (by decide) hk.2.1, r_is hI hB (by omega) hA (by omega), cI_eq]
        by_cases g2 : sS σ (kn j) = 7
        · have e1 : kq kp kn (rowQ σ) p (r + 1) j = kn j :: kq kp kn (rowQ σ) p r (j + 1) := by rw [kq, if_pos (And.intro g (And.intro g1 (by simp [rowQ, g2])))]
          rw [e1] at hm hrw ⊢
          rw [catl, List.length_append] at hm
          rw [List.length_cons] at hrw
          have hc0 := hcl (kn j) hkn
          rw [if_pos g2, if_neg (by decide), rdA_v j (nI (kn j)) rfl (by omega) (by decide) hk.2.1]
          obtain ⟨τ1, c1, c2, ⟨us1, c3⟩, c4⟩ := r_cells (row := row) hI hB hN9 hkn (by omega) (fun v67 σ68 => gd (v67 = 0 ∨ v67 = 1) (some (v67, σ68))) nk 0 N m 0 us f false τ (by omega) hA hG hZ (by omega) (by rw [← hc0]; omega) (by omega)
          rw [← hc0] at c1 c2 c3
          obtain ⟨G, hGd⟩ : ∃ G, G = (cells (kn j)).foldl (lay1 (rrN σ) (ccN σ) row) (f, 0, false) := ⟨_, rfl⟩
          rw [← hGd] at c1 c2 c3
          have hlay : f_X8_lay N (nI (kn j)) (nI row) τ = some (bI G.2.2, τ1) := by
            have hnx := x8_nextKid (N := N) (by omega) b1 b3 h60 b2 hkn (j := 0) (by omega)
            rw [nI_0] at hnx
            rw [f_X8_lay, hnx, cI_eq]
            rw [nI_0] at c1
            refine Eq.trans c1 ?_
            rw [gd_eq]
            cases G.2.2
            · exact Or.inl rfl
            · exact Or.inr rfl
          have hA1 := agR_56 hA c4
          obtain ⟨d1, d2, d3, d4⟩ := rb_K hI hB hA1
          have hew : endw G.1 row 500 = endw G.1 row 480 := by
            have h9 : us1 ≤ 480 := by have := c3.2.2; omega
            have hz : ∀ y, us1 ≤ y → G.1 y ≤ row := fun y hy => by rw [c3.2.1 y hy]; omega
            rw [endw_up hz 500 (by omega), endw_up hz 480 h9]
          have hel := endw_le (f := G.1) (row := row) 480
          rw [hlay, cI_eq, ← nI_0]
          have hsc := r_scan (N := N) (a := nI p) (b := bI u) (d := nI w) (e := nI j) (g := bI G.2.2) (f := G.1) (row := row) c3.1 (by omega) (fun v28 σ29 => if bI u = 0 then (if bI G.2.2 = 0 then (if nI row ≤ 0 then (lt (nI row + 1) (fun v39 => cI (f_X8_nextKid N (nI p) (nI j + 1) σ29) (fun v40 σ41 => f_X8_isUneven_37 N (nI p) K fuel 0 v39 v28 v40 σ41))) else (if v28 = nI w then (lt (nI row + 1) (fun v43 => cI (f_X8_nextKid N (nI p) (nI j + 1) σ29) (fun v44 σ45 => f_X8_isUneven_37 N (nI p) K fuel 0 v43 v28 v44 σ45))) else (lt (nI row + 1) (fun v46 => cI (f_X8_nextKid N (nI p) (nI j + 1) σ29) (fun v47 σ48 => f_X8_isUneven_37 N (nI p) K fuel 1 v46 v28 v47 σ48))))) else (lt (nI row + 1) (fun v35 => cI (f_X8_nextKid N (nI p) (nI j + 1) σ29) (fun v36 σ37 => f_X8_isUneven_37 N (nI p) K fuel 1 v35 v28 v36 σ37)))) else (lt (nI row + 1) (fun v31 => cI (f_X8_nextKid N (nI p) (nI j + 1) σ29) (fun v32 σ33 => f_X8_isUneven_37 N (nI p) K fuel 1 v31 v28 v32 σ33)))) c2 500 0 N (by omega) (by omega)
          rw [show endw G.1 row 0 = 0 from rfl, hew] at hsc
          have fin : ∀ u' : Bool, u' = ((u || G.2.2) || (row != 0 && endw G.1 row 480 != w)) → ∃ τ', (lt (nI row + 1) (fun v31 => cI (f_X8_nextKid N (nI p) (nI j + 1) τ1) (fun v32 σ33 => f_X8_isUneven_37 N (nI p) K fuel (bI u') v31 (nI (endw G.1 row 480)) v32 σ33))) = K (bI ((kn j :: kq kp kn (rowQ σ) p r (j + 1)).foldl (rowst (rrN σ) (ccN σ) cells) (f, row, w, u)).2.2.2) τ' ∧ ∀ c, c ≠ 56 → τ' c = τ c := by
            intro u' hu'
            rw [lt_eq, nI_1, nI_1, x8_nextKid (by omega) d1 d3 h60 d2 hp (by omega), cI_eq]
            obtain ⟨τ', t1, t2⟩ := ih (j + 1) fuel (m + (cells (kn j)).length) us1 (row + 1) (endw G.1 row 480) G.1 u' τ1 (by omega) hA1 c2 (GZ_row c3) (by omega) (by omega) (by omega) (by omega)
            refine ⟨τ', ?_, fun c hc => by rw [t2 c hc, c4 c hc]⟩
            rw [List.foldl_cons]
            have : rowst (rrN σ) (ccN σ) cells (f, row, w, u) (kn j) = (G.1, row + 1, endw G.1 row 480, u') := by
              unfold rowst
              rw [← hGd, hu']
            rw [this]
            exact t1
          have goal := hsc
          refine Exists.elim (?_ : ∃ τ', (fun v28 σ29 => if bI u = 0 then (if bI G.2.2 = 0 then (if nI row ≤ 0 then (lt (nI row + 1) (fun v39 => cI (f_X8_nextKid N (nI p) (nI j + 1) σ29) (fun v40 σ41 => f_X8_isUneven_37 N (nI p) K fuel 0 v39 v28 v40 σ41))) else (if v28 = nI w then (lt (nI row + 1) (fun v43 => cI (f_X8_nextKid N (nI p) (nI j + 1) σ29) (fun v44 σ45 => f_X8_isUneven_37 N (nI p) K fuel 0 v43 v28 v44 σ45))) else (lt (nI row + 1) (fun v46 => cI (f_X8_nextKid N (nI p) (nI j + 1) σ29) (fun v47 σ48 => f_X8_isUneven_37 N (nI p) K fuel 1 v46 v28 v47 σ48))))) else (lt (nI row + 1) (fun v35 => cI (f_X8_nextKid N (nI p) (nI j + 1) σ29) (fun v36 σ37 => f_X8_isUneven_37 N (nI p) K fuel 1 v35 v28 v36 σ37)))) else (lt (nI row + 1) (fun v31 => cI (f_X8_nextKid N (nI p) (nI j + 1) σ29) (fun v32 σ33 => f_X8_isUneven_37 N (nI p) K fuel 1 v31 v28 v32 σ33)))) (nI (endw G.1 row 480)) τ1 = K (bI ((kn j :: kq kp kn (rowQ σ) p r (j + 1)).foldl (rowst (rrN σ) (ccN σ) cells) (f, row, w, u)).2.2.2) τ' ∧ ∀ c, c ≠ 56 → τ' c = τ c) (fun τ' h9 => ⟨τ', Eq.trans goal h9.1, h9.2⟩)
          show ∃ τ', (if bI u = 0 then _ else _) = _ ∧ _
          cases hu : u with
          | true =>
            rw [if_neg (by decide)]
            have := fin true (by rw [hu]; rfl)
            rw [hu] at this
            exact this
          | false =>
            rw [if_pos (by decide)]
            cases hg : G.2.2 with
            | true =>
              rw [if_neg (by decide)]
              have := fin true (by rw [hu, hg]; rfl)
              rw [hu] at this
              exact this
            | false =>
              rw [if_pos (by decide)]
              by_cases r0 : row = 0
              · rw [if_pos (by rw [r0]; decide)]
                have := fin false (by rw [hu, hg, r0]; rfl)
                rw [hu] at this
                exact this
              · rw [if_neg (nI_nle (by omega) (by omega))]
                by_cases ew : endw G.1 row 480 = w
                · rw [if_pos (by rw [ew])]
                  have := fin false (by rw [hu, hg]; simp [ew])
                  rw [hu] at this
                  exact this
                · rw [if_neg (by rw [eqN (by omega) (by omega)]; exact ew)]
                  have := fin true (by rw [hu, hg]; simp [ew, r0])
                  rw [hu] at this
                  exact this
        · have e1 : kq kp kn (rowQ σ) p (r + 1) j = kq kp kn (rowQ σ) p r (j + 1) := by rw [kq, if_neg (fun h => g2 (by have := h.2.2; simp [rowQ] at this; exact this))]
          rw [e1] at hm hrw ⊢
          rw [if_neg g2, if_pos rfl, nI_1, x8_nextKid (by omega) b1 b3 h60 b2 hp (by omega), cI_eq]
          exact ih (j + 1) fuel m us row w f u τ (by omega) hA hG hZ hm hrw hw (by omega)
      · have e1 : kq kp kn (rowQ σ) p (r + 1) j = kq kp kn (rowQ σ) p r (j + 1) := by rw [kq, if_neg (fun h => g1 h.2.1)]
        rw [e1] at hm hrw ⊢
        rw [if_pos (by rw [show (1000 : Int32) = nI 1000 from rfl, leN (by decide) (by omega)]; omega), nI_1, x8_nextKid (by omega) b1 b3 h60 b2 hp (by omega), cI_eq]
        exact ih (j + 1) fuel m us row w f u τ (by omega) hA hG hZ hm hrw hw (by omega)
    · have e1 : kq kp kn (rowQ σ) p (r + 1) j = kq kp kn (rowQ σ) p r (j + 1) := by rw [kq, if_neg (fun h => g h.1)]
      rw [e1] at hm hrw ⊢
      rw [nxt_miss (by omega) g]
      exact ih (j + 1) fuel m us row w f u τ (by omega) hA hG hZ hm hrw hw (by omega)
end RW
