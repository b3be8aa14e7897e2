def nums (Q : Nat → Bool) : Nat → Nat → List Nat
  | 0, _ => []
  | r + 1, e => if Q e = true then e :: nums Q r (e + 1) else nums Q r (e + 1)
def kq (kp kn : Nat → Nat) (Q : Nat → Bool) (p : Nat) : Nat → Nat → List Nat
  | 0, _ => []
  | r + 1, j => if kp j = p ∧ kn j < 1000 ∧ Q (kn j) = true then kn j :: kq kp kn Q p r (j + 1) else kq kp kn Q p r (j + 1)
def lay1 (rr cc : Nat → Nat) (row : Nat) (g : (Nat → Nat) × Nat × Bool) (e : Nat) : (Nat → Nat) × Nat × Bool :=
  ((put row (rr e) (cc e) g.1 (skp g.1 row (480 - g.2.1) g.2.1) g.2.2).1, skp g.1 row (480 - g.2.1) g.2.1 + cc e, (put row (rr e) (cc e) g.1 (skp g.1 row (480 - g.2.1) g.2.1) g.2.2).2)
def cellQ (σ : Sg) (e : Nat) : Bool := sS σ e == 8 || sS σ e == 9
def inP (kp ix : Nat → Nat) (p : Nat) (Q : Nat → Bool) (e : Nat) : Bool := kp (ix e) == p && Q e
def rrN (σ : Sg) (e : Nat) : Nat := (σ 39 e).toNatClampNeg
def ccN (σ : Sg) (e : Nat) : Nat := (σ 40 e).toNatClampNeg
/-- what a laid row keeps -/
def GZ (f : Nat → Nat) (row us m : Nat) : Prop := (∀ i, f i ≤ row + 8) ∧ (∀ y, us ≤ y → f y = 0) ∧ us ≤ 8 * m
theorem GZ_lay {f : Nat → Nat} {row us m x r c : Nat} {u : Bool} (h : GZ f row us m) (hr : r ≤ 8) (hc : c ≤ 8) (hx : x ≤ us) (hm : m ≤ 59) : GZ (put row r c f (skp f row (480 - x) x) u).1 row (max us (skp f row (480 - x) x + c)) (m + 1) ∧ skp f row (480 - x) x ≤ us := by
  obtain ⟨k1, k2⟩ := skp_le h.2.1 (row := row) (480 - x) x hx (by have := h.2.2; omega)
  obtain ⟨p1, p2⟩ := put_f (row := row) hr c f (skp f row (480 - x) x) u h.1 h.2.1
  exact ⟨⟨p1, fun y hy => p2 y (by omega) (by omega), by have := h.2.2; omega⟩, k1⟩
section CD
variable {σ ρ : Sg} {ne nk np nt ns nf : Nat} {kp kn sh ix : Nat → Nat} {N : Nat}
theorem rr_ok (hI : IA σ ne nk np nt ns nf kp kn sh) {e : Nat} (he : e < 60) : σ 39 e = nI (rrN σ e) ∧ rrN σ e ≤ 8 ∧ σ 40 e = nI (ccN σ e) ∧ ccN σ e ≤ 8 := by
  obtain ⟨v, v1, v2, v3⟩ := hI.2.2.1.2.2.2.2.1 e he
  obtain ⟨w, w1, w2, w3⟩ := hI.2.2.1.2.2.2.2.2 e he
  unfold rrN ccN
  rw [v3, w3, nI_clamp (by omega), nI_clamp (by omega)]
  exact ⟨rfl, v2, rfl, w2⟩
theorem ag_par (hI : IA σ ne nk np nt ns nf kp kn sh) (hTr : Tr kp kn ix nk ne) {τ : Sg} (hA : AgC σ τ) {e : Nat} (h1 : 1 ≤ e) (he : e < ne) : f_X6_parentOf N (nI e) τ = some (nI (kp (ix e)), τ) ∧ kp (ix e) < 60 := by
  have h60 := ne60 hI
  obtain ⟨q1, q2, q3⟩ := Tr_pr hTr h1 he h60
  have h7 : τ 7 e = nI (kp (ix e)) := by
    have := hI.2.2.2.2.2.1.2.2.1 (ix e) q1
    rw [q2, nd_e (by omega)] at this
    rw [hA.1 7 rfl]; exact this
  exact ⟨by rw [f_X6_parentOf, rdA_v e (nI (kp (ix e))) rfl (by omega) (by decide) h7], by omega⟩
theorem ag_20 {τ τ' : Sg} (hA : AgC σ τ) (h : ∀ c, c ≠ 20 → c ≠ 21 → τ' c = τ c) : AgC σ τ' :=
  ⟨fun c hc => by rw [h c (by rintro rfl; exact absurd hc (by decide)) (by rintro rfl; exact absurd hc (by decide)), hA.1 c hc], by rw [h 0 (by decide) (by decide)]; exact hA.2⟩
theorem c_cells (hI : IA σ ne nk np nt ns nf kp kn sh) (hTr : Tr kp kn ix nk ne) (hN9 : 600 ≤ N) {p row : Nat} {w : Int32} {u0 : Bool} (hp : p < 60) (hrow : row ≤ 60) (K : Sg → Option (Int32 × Sg)) : ∀ (r e fuel m x us : Nat) (f : Nat → Nat) (u : Bool) (τ : Sg), e + r = ne → 1 ≤ e → AgC σ τ → GC τ f row x us (u0 || u) w → GZ f row us m → x ≤ us → m + (nums (inP kp ix p (cellQ σ)) r e).length ≤ 59 → r < fuel → ∃ τ' us', f_X7_layCells_4 N (nI p) K fuel (nI e) τ = K τ' ∧ GC τ' ((nums (inP kp ix p (cellQ σ)) r e).foldl (lay1 (rrN σ) (ccN σ) row) (f, x, u)).1 row ((nums (inP kp ix p (cellQ σ)) r e).foldl (lay1 (rrN σ) (ccN σ) row) (f, x, u)).2.1 us' (u0 || ((nums (inP kp ix p (cellQ σ)) r e).foldl (lay1 (rrN σ) (ccN σ) row) (f, x, u)).2.2) w ∧ GZ ((nums (inP kp ix p (cellQ σ)) r e).foldl (lay1 (rrN σ) (ccN σ) row) (f, x, u)).1 row us' (m + (nums (inP kp ix p (cellQ σ)) r e).length) ∧ ∀ c, c ≠ 20 → c ≠ 21 → τ' c = τ c := by
  have h60 := ne60 hI
  intro r
  induction r with
  | zero =>
    intro e fuel m x us f u τ he h1 hA hG hZ hx hm hf
    obtain ⟨fuel, rfl⟩ : ∃ k, fuel = k + 1 := ⟨fuel - 1, by omega⟩
    refine ⟨τ, us, ?_, hG, hZ, fun c _ _ => rfl⟩
    rw [f_X7_layCells_4, lt_eq, ag_ne hI hA, if_pos (nI_le (by omega) (by omega))]
  | succ r ih =>
    intro e fuel m x us f u τ he h1 hA hG hZ hx hm hf
    obtain ⟨fuel, rfl⟩ : ∃ k, fuel = k + 1 := ⟨fuel - 1, by omega⟩
    obtain ⟨a1, a2⟩ := ag_par (N := N) hI hTr hA h1 (show e < ne by omega)
    rw [f_X7_layCells_4, lt_eq, ag_ne hI hA, if_neg (nI_ge (by omega) (by omega)), a1, cI_eq]
    by_cases g : kp (ix e) = p
    · rw [if_pos (by rw [g]), ag_std hI (by omega) hA (show e < ne by omega), cI_eq]
      by_cases g2 : cellQ σ e = true
      · have e1 : nums (inP kp ix p (cellQ σ)) (r + 1) e = e :: nums (inP kp ix p (cellQ σ)) r (e + 1) := by rw [nums, if_pos (by simp [inP, g, g2])]
        obtain ⟨s1, s2, s3, s4⟩ := rr_ok hI (show e < 60 by omega)
        have hic : f_X7_isCell N (sS σ e) τ = some (1, τ) := by
          unfold f_X7_isCell
          by_cases g8 : sS σ e = 8
          · rw [if_pos g8]
          · rw [if_neg g8, if_pos (by simp [cellQ, g8] at g2; exact g2)]
        rw [e1] at hm ⊢
        rw [List.length_cons] at hm
        rw [hic, cI_eq, if_neg (by decide), rdA_v e (nI (rrN σ e)) rfl (by omega) (by decide) (by rw [hA.1 28 rfl, hI.2.1.2.2.2.1]; exact s1), rdA_v e (nI (ccN σ e)) rfl (by omega) (by decide) (by rw [hA.1 29 rfl, hI.2.1.2.2.2.2.1]; exact s3)]
        obtain ⟨τ1, b1, b2, b3⟩ := c_lay hN9 s2 (show row ≤ 100 by omega) s4 hZ.1 hZ.2.1 hx (by have := hZ.2.2; omega) hG
        obtain ⟨z1, z2⟩ := GZ_lay (u := u) hZ s2 s4 hx (by omega)
        rw [b1, cI_eq, lt_eq, nI_1]
        rw [put_u] at b2
        obtain ⟨τ', us', c1, c2, c3, c4⟩ := ih (e + 1) fuel (m + 1) (skp f row (480 - x) x + ccN σ e) (max us (skp f row (480 - x) x + ccN σ e)) (put row (rrN σ e) (ccN σ e) f (skp f row (480 - x) x) u).1 (put row (rrN σ e) (ccN σ e) f (skp f row (480 - x) x) u).2 τ1 (by omega) (by omega) (ag_20 hA b3) b2 z1 (by omega) (by omega) (by omega)
        refine ⟨τ', us', c1, c2, ?_, fun c d1 d2 => by rw [c4 c d1 d2, b3 c d1 d2]⟩
        rw [List.length_cons, show m + ((nums (inP kp ix p (cellQ σ)) r (e + 1)).length + 1) = m + 1 + (nums (inP kp ix p (cellQ σ)) r (e + 1)).length by omega]
        exact c3
      · have e1 : nums (inP kp ix p (cellQ σ)) (r + 1) e = nums (inP kp ix p (cellQ σ)) r (e + 1) := by rw [nums, if_neg (by simp [inP, g2])]
        have hic : f_X7_isCell N (sS σ e) τ = some (0, τ) := by
          simp [cellQ] at g2
          unfold f_X7_isCell
          rw [if_neg g2.1, if_neg g2.2]
        rw [e1] at hm ⊢
        rw [hic, cI_eq, if_pos rfl, lt_eq, nI_1]
        exact ih (e + 1) fuel m x us f u τ (by omega) (by omega) hA hG hZ hx hm (by omega)
    · have e1 : nums (inP kp ix p (cellQ σ)) (r + 1) e = nums (inP kp ix p (cellQ σ)) r (e + 1) := by rw [nums, if_neg (by simp [inP, g])]
      rw [e1] at hm ⊢
      rw [if_neg (by rw [eqN (by omega) (by omega)]; exact g), lt_eq, nI_1]
      exact ih (e + 1) fuel m x us f u τ (by omega) (by omega) hA hG hZ hx hm (by omega)
def GR (τ : Sg) (f : Nat → Nat) : Prop := ∀ i, i < 500 → τ 56 i = nI (f i)
theorem r_skp {a c x5 : Int32} {f : Nat → Nat} {row : Nat} (hf : ∀ i, f i ≤ row + 8) (hrow : row ≤ 100) (K : Int32 → Sg → Option (Int32 × Sg)) {τ : Sg} (hG : GR τ f) : ∀ (n x fuel : Nat), x + n = 480 → skp f row n x < 480 → n < fuel → f_X8_lay_49 N a (nI row) c x5 K fuel (nI x) τ = K (nI (skp f row n x)) τ := by
  intro n
  induction n with
  | zero => intro x fuel hx hs _; exact absurd hs (by show ¬ x < 480; omega)
  | succ n ih =>
    intro x fuel hx hs hfu
    obtain ⟨fuel, rfl⟩ : ∃ k, fuel = k + 1 := ⟨fuel - 1, by omega⟩
    have h1 := hf x
    rw [skp] at hs ⊢
    rw [f_X8_lay_49, rdA_v x (nI (f x)) rfl (by omega) (by decide) (hG x (by omega))]
    by_cases g : f x ≤ row
    · rw [if_pos (nI_le g (by omega)), if_pos g]
    · rw [if_neg g] at hs ⊢
      rw [if_neg (nI_ge (by omega) (by omega)), lt_eq, nI_1]
      exact ih (x + 1) fuel (by omega) hs (by omega)
theorem rf_put {a : Int32} {row rr cc j e : Nat} (hr : rr ≤ 8) (hrow : row ≤ 100) (hcc : cc ≤ 8) (hj : j < 160) (he : e < 60) (K : Int32 → Int32 → Sg → Option (Int32 × Sg)) : ∀ (c k x fuel : Nat) (f : Nat → Nat) (u : Bool) (τ : Sg), k + c = cc → x + c ≤ 480 → (∀ i, f i ≤ row + 8) → GR τ f → τ 43 j = nI e → τ 39 e = nI rr → τ 40 e = nI cc → c < fuel → ∃ τ', f_X8_lay_69 N a (nI row) (nI j) K fuel (bI u) (nI x) (nI k) τ = K (bI (put row rr c f x u).2) (nI (x + c)) τ' ∧ GR τ' (put row rr c f x u).1 ∧ ∀ c, c ≠ 56 → τ' c = τ c := by
  intro c
  induction c with
  | zero =>
    intro k x fuel f u τ hk hx hf hG h43 h39 h40 hfu
    obtain ⟨fuel, rfl⟩ : ∃ k, fuel = k + 1 := ⟨fuel - 1, by omega⟩
    refine ⟨τ, ?_, hG, fun c _ => rfl⟩
    rw [f_X8_lay_69, rdA_v j (nI e) rfl hj (by decide) h43, rdA_v e (nI cc) rfl he (by decide) h40, if_pos (nI_le (by omega) (by omega))]
    rfl
  | succ c ih =>
    intro k x fuel f u τ hk hx hf hG h43 h39 h40 hfu
    obtain ⟨fuel, rfl⟩ : ∃ k, fuel = k + 1 := ⟨fuel - 1, by omega⟩
    have h1 := hf x
    have hb : ∀ i, up f x (max (f x) (row + rr)) i ≤ row + 8 := by
      intro i
      by_cases e : i = x
      · subst e; rw [up_s]; have := hf i; omega
      · rw [up_n e]; exact hf i
    have hx5 : τ 56 x = nI (f x) := hG x (by omega)
    have fin : ∀ u' : Bool, u' = (u || decide (row < f x)) → ∃ τ', f_X8_lay_69 N a (nI row) (nI j) K fuel (bI u') (nI x + 1) (nI k + 1) (ss τ 56 x (nI (max (f x) (row + rr)))) = K (bI (put row rr (c + 1) f x u).2) (nI (x + (c + 1))) τ' ∧ GR τ' (put row rr (c + 1) f x u).1 ∧ ∀ c, c ≠ 56 → τ' c = τ c := by
      intro u' hu'
      have hG' : GR (ss τ 56 x (nI (max (f x) (row + rr)))) (up f x (max (f x) (row + rr))) := by
        intro i hi
        show upd (τ 56) x (nI (max (f x) (row + rr))) i = _
        by_cases e : i = x
        · subst e; rw [upd_s, up_s]
        · rw [upd_n e, up_n e]; exact hG i hi
      obtain ⟨τ', a1, a2, a3⟩ := ih (k + 1) (x + 1) fuel (up f x (max (f x) (row + rr))) u' _ (by omega) (by omega) hb hG' h43 h39 h40 (by omega)
      rw [nI_1, nI_1]
      refine ⟨τ', ?_, ?_, fun c c1 => by rw [a3 c c1, ss_c c1]⟩
      · rw [put, ← hu', show x + (c + 1) = x + 1 + c by omega]; exact a1
      · rw [put, ← hu']; exact a2
    have tail : ∀ v : Int32, (rdA 160 (τ 43) (nI j) (fun v38 => rdA 60 (τ 39) v38 (fun v39 => lt (nI row + v39) (fun v40 => rdA 500 (τ 56) (nI x) (fun v41 => if v40 ≤ v41 then (rdA 500 (τ 56) (nI x) (fun v43 => wrA 500 τ 56 (nI x) v43 (fun σ44 => lt (nI x + 1) (fun v45 => lt (nI k + 1) (fun v46 => f_X8_lay_69 N a (nI row) (nI j) K fuel v v45 v46 σ44))))) else (wrA 500 τ 56 (nI x) v40 (fun σ47 => lt (nI x + 1) (fun v48 => lt (nI k + 1) (fun v49 => f_X8_lay_69 N a (nI row) (nI j) K fuel v v48 v49 σ47)))))))) ) = f_X8_lay_69 N a (nI row) (nI j) K fuel v (nI x + 1) (nI k + 1) (ss τ 56 x (nI (max (f x) (row + rr)))) := by
      intro v
      rw [rdA_v j (nI e) rfl hj (by decide) h43, rdA_v e (nI rr) rfl he (by decide) h39, lt_eq, nI_add, rdA_v x (nI (f x)) rfl (by omega) (by decide) hx5]
      by_cases g : row + rr ≤ f x
      · rw [if_pos (nI_le g (by omega)), rdA_v x (nI (f x)) rfl (by omega) (by decide) hx5, wrA_eq _ _ _ x rfl (by omega) (by decide), lt_eq, lt_eq, Nat.max_eq_left g]
      · rw [if_neg (nI_ge (by omega) (by omega)), wrA_eq _ _ _ x rfl (by omega) (by decide), lt_eq, lt_eq, Nat.max_eq_right (by omega)]
    rw [f_X8_lay_69, rdA_v j (nI e) rfl hj (by decide) h43, rdA_v e (nI cc) rfl he (by decide) h40, if_neg (nI_ge (by omega) (by omega))]
    cases hu : u with
    | true =>
      subst hu
      rw [if_neg (by decide), tail 1]
      exact fin true rfl
    | false =>
      subst hu
      rw [if_pos (by decide), rdA_v x (nI (f x)) rfl (by omega) (by decide) hx5]
      by_cases g : f x ≤ row
      · rw [if_pos (nI_le g (by omega)), tail 0]
        exact fin false (by rw [decide_eq_false (by omega)]; rfl)
      · rw [if_neg (nI_ge (by omega) (by omega)), tail 1]
        exact fin true (by rw [decide_eq_true (by omega)]; rfl)
end CD
